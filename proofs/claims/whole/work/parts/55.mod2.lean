/-! Layer 2: the model makes a season -/
def MB (t : Hp) (S : Sn) : Prop := t 174 0 = sK S ∧ t 174 1 = sL S ∧ t 174 4 = sP S ∧ t 167 26 = sN S ∧ (∀ i, 0 ≤ i → i < 5 * sP S → t 178 i = sT S i) ∧ (∀ x, 0 ≤ x → x < sP S → t 179 x = sR S x ∧ t 180 x = sQ S x ∧ t 181 x = bs (sH S x) ∧ t 182 x = 0)
theorem bs6_m1 : ∀ a b c d e f : Bool, iand (bs6 a b c d e f) (ixor 0 (-1)) = bs6 a b c d e f := by decide +kernel
theorem bs_m1 (c : Int → Bool) : iand (bs c) (ixor 0 (-1)) = bs c := bs6_m1 ..
theorem MB_MP {t : Hp} {S : Sn} (hW : WF S) (hF : Full S) (hM : MB t S) : MP t S := by
  obtain ⟨c0, c1, c2, c3, cT, cR⟩ := hM
  refine ⟨c0, c1, c2, c3, cT, ?_, ?_⟩
  · intro x a b
    have hr := hW.2.2.2.2.2 x a b
    have hN := hF.1
    refine ⟨(cR x a (by omega)).1, ?_⟩
    rw [(cR (sR S x) hr.1 hr.2.1).2.1]
    exact hr.2.2
  · intro p a b c
    have := cR p a b
    rw [this.2.2.1, this.2.2.2, bs_andn, bs_m1]
/-- the model's first field is the class's land -/
def L0 (t : Hp) : Prop := t 173 0 = t 9 6 ∧ t 174 0 = t 9 1 ∧ t 174 1 = t 9 2 ∧ t 174 2 = t 9 3 ∧ t 174 3 = t 9 4 ∧ t 174 4 = t 9 5 ∧ t 174 5 = t 9 8 ∧ (∀ i, 0 ≤ i → i < 5 * t 9 5 → t 175 i = t 10 i) ∧ (∀ i, 0 ≤ i → i < t 9 8 → (t 11 i = 0 → t 176 (4 * i) = 0) ∧ (t 11 i = 1 → t 176 (4 * i) = 2) ∧ (t 11 i = 2 → t 176 (4 * i) = 1) ∧ t 176 (4 * i + 1) = t 12 i ∧ t 176 (4 * i + 2) = t 13 i ∧ t 176 (4 * i + 3) = t 14 i)
theorem m_change {t : Hp} {S : Sn} (hW : WF S) (hF : Full S) (hM : MB t S) {p q : Int} (hp : 0 ≤ p ∧ p < sP S) (hq : 0 ≤ q ∧ q < sP S) : ∃ t', md_changes t p q = some t' ∧ MB t' (swS p q S) ∧ ∀ a, a ≠ 179 → a ≠ 180 → t' a = t a := by
  have hP := hW.2.2.1
  have gp := hF.2 p hp.1 hp.2
  have gq := hF.2 q hq.1 hq.2
  obtain ⟨c0, c1, c2, c3, cT, cR⟩ := hM
  have kp := (cR p hp.1 hp.2).2.1
  have kq := (cR q hq.1 hq.2).2.1
  by_cases e : p = q
  · subst e
    refine ⟨up (up (up (up t 180 p (sQ S p)) 180 p (sQ S p)) 179 (sQ S p) p) 179 (sQ S p) p, ?_, ⟨?_, ?_, ?_, ?_, ?_, ?_⟩, ?_⟩
    · unfold md_changes
      simp (disch := omega) only [wr_id, chk_t, lt_eq, kp, up_eq, up_nk]
    · simp (disch := omega) only [up_nk]; exact c0
    · simp (disch := omega) only [up_nk]; exact c1
    · simp (disch := omega) only [up_nk]; exact c2
    · simp (disch := omega) only [up_nk]; exact c3
    · simp (disch := omega) only [up_nk]; exact cT
    · intro x a b
      have cx := cR x a b
      refine ⟨?_, ?_, ?_, ?_⟩
      · show _ = if x = sQ S p then p else if x = sQ S p then p else sR S x
        by_cases z : x = sQ S p
        · rw [if_pos z, z, up_eq]
        · rw [if_neg z, if_neg z, up_ni z, up_ni z]; simp (disch := omega) only [up_nk]; exact cx.1
      · show _ = if x = p then sQ S p else if x = p then sQ S p else sQ S x
        rw [up_nk (by omega), up_nk (by omega)]
        by_cases z : x = p
        · rw [if_pos z, z, up_eq]
        · rw [if_neg z, if_neg z, up_ni z, up_ni z]; exact cx.2.1
      · simp (disch := omega) only [up_nk]; exact cx.2.2.1
      · simp (disch := omega) only [up_nk]; exact cx.2.2.2
    · intro a h1 h2
      simp (disch := omega) only [up_nk]
  · have ne : sQ S p ≠ sQ S q := by
      intro z
      have a := gp.2.2
      rw [z, gq.2.2] at a
      exact e a.symm
    have e' : q ≠ p := fun z => e z.symm
    have u1 : up (up t 180 p (sQ S q)) 180 q (sQ S p) 180 p = sQ S q := by rw [up_ni e, up_eq]
    refine ⟨up (up (up (up t 180 p (sQ S q)) 180 q (sQ S p)) 179 (sQ S q) p) 179 (sQ S p) q, ?_, ⟨?_, ?_, ?_, ?_, ?_, ?_⟩, ?_⟩
    · unfold md_changes
      simp (disch := omega) only [wr_id, chk_t, lt_eq, kp, kq, up_eq, up_nk, u1]
    · simp (disch := omega) only [up_nk]; exact c0
    · simp (disch := omega) only [up_nk]; exact c1
    · simp (disch := omega) only [up_nk]; exact c2
    · simp (disch := omega) only [up_nk]; exact c3
    · simp (disch := omega) only [up_nk]; exact cT
    · intro x a b
      have cx := cR x a b
      refine ⟨?_, ?_, ?_, ?_⟩
      · show _ = if x = sQ S q then p else if x = sQ S p then q else sR S x
        by_cases z : x = sQ S q
        · rw [if_pos z, z, up_ni (fun y => ne y.symm), up_eq]
        · rw [if_neg z]
          by_cases z2 : x = sQ S p
          · rw [if_pos z2, z2, up_eq]
          · rw [if_neg z2, up_ni z2, up_ni z]; simp (disch := omega) only [up_nk]; exact cx.1
      · show _ = if x = p then sQ S q else if x = q then sQ S p else sQ S x
        rw [up_nk (by omega), up_nk (by omega)]
        by_cases z : x = p
        · rw [if_pos z, z, u1]
        · rw [if_neg z]
          by_cases z2 : x = q
          · rw [if_pos z2, z2, up_eq]
          · rw [if_neg z2, up_ni z2, up_ni z]; exact cx.2.1
      · simp (disch := omega) only [up_nk]; exact cx.2.2.1
      · simp (disch := omega) only [up_nk]; exact cx.2.2.2
    · intro a h1 h2
      simp (disch := omega) only [up_nk]
theorem MB_hd {h : Hp} {S : Sn} (hC : MB h S) {p k : Int} (on : Bool) : MB (up h 181 p (bs (fun j => if j = k then on else sH S p j))) (hdS p k on S) := by
  obtain ⟨c0, c1, c2, c3, cT, cR⟩ := hC
  refine ⟨?_, ?_, ?_, ?_, ?_, ?_⟩
  · rw [up_nk (by omega)]; exact c0
  · rw [up_nk (by omega)]; exact c1
  · rw [up_nk (by omega)]; exact c2
  · rw [up_nk (by omega)]; exact c3
  · rw [up_nk (by omega)]; exact cT
  · intro r h0 h1
    rw [up_nk (show (179 : Nat) ≠ 181 by omega), up_nk (show (180 : Nat) ≠ 181 by omega), up_nk (show (182 : Nat) ≠ 181 by omega)]
    have cx := cR r h0 h1
    refine ⟨cx.1, cx.2.1, ?_, cx.2.2.2⟩
    show _ = bs (fun j => if r = p ∧ j = k then on else sH S r j)
    by_cases e : r = p
    · subst e; rw [up_eq]; simp only [true_and]
    · rw [up_ni e]; simp only [e, false_and, if_false]; exact cx.2.2.1
theorem m_acts {t : Hp} {S : Sn} (hW : WF S) (hF : Full S) (hM : MB t S) (h0 : L0 t) (hn : 0 ≤ t 9 8 ∧ t 9 8 ≤ 40) (hA : ActOk (t 11) (t 12) (t 13) (t 14) (t 9 8) (sP S) (sK S)) {s : Int} (hs : 0 ≤ s ∧ s ≤ 13) : ∃ t', md_acts t s = some t' ∧ MB t' (acI (t 11) (t 12) (t 13) (t 14) s S (t 9 8)) ∧ ∀ a, (a < 179 ∨ 181 < a) → t' a = t a := by
  have hK := hW.1
  have hP := hW.2.2.1
  obtain ⟨_, _, _, _, _, _, n5, _, lA⟩ := h0
  obtain ⟨g, e, r⟩ := lp (body := md_acts_b1 s) (s0 := (0, t)) (Q := fun g => MB g (acI (t 11) (t 12) (t 13) (t 14) s S (t 9 8)) ∧ ∀ a, (a < 179 ∨ 181 < a) → g a = t a) (fun i m => m.1 = i ∧ MB m.2 (acI (t 11) (t 12) (t 13) (t 14) s S i) ∧ ∀ a, (a < 179 ∨ 181 < a) → m.2 a = t a) (t 9 8) hn.1 (by omega) ⟨rfl, hM, fun _ _ => rfl⟩ (fun i m a b hI => by
    obtain ⟨c, m⟩ := m
    obtain ⟨e, hm, f⟩ := hI
    dsimp only at e hm f
    subst e
    have ok := acI_ok hA s hW hF c a (by omega)
    have hA1 := hA c a b
    have lA1 := lA c a b
    obtain ⟨y0, y1, y2, y3, y4, y5⟩ := lA1
    rw [acI_succ _ _ _ _ _ _ a]
    generalize acI (t 11) (t 12) (t 13) (t 14) s S c = U at hm ok
    obtain ⟨uW, uF, uK, uL, uP, uN, uT⟩ := ok
    have x5 : m 174 5 = t 9 8 := by rw [f 174 (by omega)]; exact n5
    have x6 : m 176 = t 176 := f _ (by omega)
    unfold ac1
    by_cases q1 : t 14 c = s
    · rw [if_pos q1]
      by_cases q2 : t 11 c = 0
      · rw [if_pos q2]
        have hA2 := hA1.2.2.2.1 q2
        have z0 := y0 q2
        obtain ⟨m', e', k', f'⟩ := m_change uW uF hm (p := t 12 c) (q := t 13 c) (by omega) (by omega)
        refine ⟨(c + 1, m'), ?_, rfl, k', ?_⟩
        · simp (disch := omega) only [md_acts_b1, x5, x6, y3, y4, y5, z0, wr_id, if_pos, if_true, chk_t, e', bd_some]
        · intro a' ha
          try dsimp only
          rw [f' a' (by omega) (by omega), f a' ha]
      · rw [if_neg q2]
        have hA2 := hA1.2.2.2.2.1 q2
        have cH := (hm.2.2.2.2.2 (t 12 c) hA1.2.1.1 (by omega)).2.2.1
        refine ⟨(c + 1, up m 181 (t 12 c) (bs (fun j => if j = t 13 c then decide (t 11 c = 2) else sH U (t 12 c) j))), ?_, rfl, MB_hd hm _, ?_⟩
        · rw [← hdS_bs (by omega) (decide (t 11 c = 2))]
          by_cases q3 : t 11 c = 2
          · have z0 := y2 q3
            simp (disch := omega) only [md_acts_b1, x5, x6, y3, y4, y5, z0, wr_id, if_pos, if_neg, if_true, if_false, chk_t, q3, cH, lt_eq, bd_some, decide_true]
          · have z0 := y1 (by omega)
            simp (disch := omega) only [md_acts_b1, x5, x6, y3, y4, y5, z0, wr_id, if_pos, if_neg, if_true, if_false, chk_t, q3, cH, lt_eq, bd_some, decide_false, Bool.false_eq_true]
        · intro a' ha
          try dsimp only
          rw [up_nk (by omega), f a' ha]
    · rw [if_neg q1]
      refine ⟨(c + 1, m), ?_, rfl, hm, f⟩
      simp (disch := omega) only [md_acts_b1, x5, x6, y5, wr_id, if_pos, if_neg, chk_t, bd_some]) (fun m hI => by
    obtain ⟨c, m⟩ := m
    obtain ⟨e, hm, f⟩ := hI
    dsimp only at e hm f
    subst e
    have x5 : m 174 5 = t 9 8 := by rw [f 174 (by omega)]; exact n5
    exact ⟨m, by simp (disch := omega) only [md_acts_b1, x5, wr_id, if_neg], hm, f⟩)
  exact ⟨g, by unfold md_acts; rw [e]; rfl, r⟩
/-! as all begins -/
theorem m_beg2 {m : Hp} {p : Int} (hp : 0 ≤ p ∧ p < 6) (z : Int × Hp) (hz : z.1 = p) : ∃ m', iter FU (md_begins0_b2 z) (0, m) = some m' ∧ (∀ a, a ≠ 178 → m' a = m a) ∧ ∀ i, 0 ≤ i → i < 30 → m' 178 i = if p * 5 ≤ i ∧ i < p * 5 + 5 then m 175 i else m 178 i := by
  refine lp (fun i s => s.1 = i ∧ (∀ a, a ≠ 178 → s.2 a = m a) ∧ ∀ j, 0 ≤ j → j < 30 → s.2 178 j = if p * 5 ≤ j ∧ j < p * 5 + i then m 175 j else m 178 j) 5 (by omega) (by omega) ⟨rfl, fun _ _ => rfl, fun j a b => by rw [if_neg (by omega)]⟩ (fun i s a b hI => ?_) (fun s hI => ?_)
  · obtain ⟨c, g⟩ := s
    obtain ⟨e, f, r⟩ := hI
    dsimp only at e f r
    subst e
    have e2 : 5 * p + c = p * 5 + c := by omega
    refine ⟨(c + 1, up g 178 (p * 5 + c) (m 175 (p * 5 + c))), ?_, rfl, ?_, ?_⟩
    · simp (disch := omega) only [md_begins0_b2, hz, e2, wr_id, if_pos, chk_t, lt_eq, f]
    · intro a' h1
      try dsimp only
      rw [up_nk h1]; exact f a' h1
    · intro j h1 h2
      try dsimp only
      by_cases ej : j = p * 5 + c
      · rw [ej, up_eq, if_pos (by omega)]
      · rw [up_ni ej, r j h1 h2]
        by_cases g1 : p * 5 ≤ j ∧ j < p * 5 + c
        · rw [if_pos g1, if_pos (by omega)]
        · rw [if_neg g1, if_neg (by omega)]
  · obtain ⟨c, g⟩ := s
    obtain ⟨e, f, r⟩ := hI
    dsimp only at e f r
    subst e
    exact ⟨g, by simp (disch := omega) only [md_begins0_b2, wr_id, if_neg], f, r⟩
/-- the model's scratch: nothing else is changed -/
def Fr (t t' : Hp) : Prop := (∀ a, a ≠ 167 → (a < 178 ∨ 183 < a) → t' a = t a) ∧ ∀ j, j ≠ 26 → t' 167 j = t 167 j
theorem Fr_rfl (t : Hp) : Fr t t := ⟨fun _ _ _ => rfl, fun _ _ => rfl⟩
theorem Fr_trans {t u v : Hp} (a : Fr t u) (b : Fr u v) : Fr t v := ⟨fun k h1 h2 => (b.1 k h1 h2).trans (a.1 k h1 h2), fun j h => (b.2 j h).trans (a.2 j h)⟩
theorem L0_fr {t t' : Hp} (h : L0 t) (hf : ∀ a, (9 ≤ a ∧ a ≤ 14) ∨ (173 ≤ a ∧ a ≤ 176) → t' a = t a) : L0 t' := by
  unfold L0
  rw [hf 173 (by omega), hf 174 (by omega), hf 175 (by omega), hf 176 (by omega), hf 9 (by omega), hf 10 (by omega), hf 11 (by omega), hf 12 (by omega), hf 13 (by omega), hf 14 (by omega)]
  exact h
theorem L9_fr {t t' : Hp} (h : LOk9 t) (hf : ∀ a, (9 ≤ a ∧ a ≤ 14) → t' a = t a) : LOk9 t' := by
  unfold LOk9
  rw [hf 9 (by omega), hf 10 (by omega), hf 11 (by omega), hf 12 (by omega), hf 13 (by omega), hf 14 (by omega)]
  exact h
theorem Sea_fr {t t' : Hp} (hf : ∀ a, (9 ≤ a ∧ a ≤ 14) → t' a = t a) (s : Nat) : Sea t' s = Sea t s := by
  unfold Sea
  rw [hf 9 (by omega), hf 10 (by omega), hf 11 (by omega), hf 12 (by omega), hf 13 (by omega), hf 14 (by omega)]
theorem m_begins0 {t : Hp} (h0 : L0 t) (hL : LOk9 t) : ∃ t', md_begins0 t = some t' ∧ MB t' (Sea t 0) ∧ Fr t t' := by
  have hL' := hL
  have h0' := h0
  obtain ⟨l0, l1, l2, l3, l4, l5, l6, l8, lT, lZ, lA, lx⟩ := hL'
  obtain ⟨n6, n0, n1, n2, n3, n4, n5, nT, nA⟩ := h0'
  obtain ⟨u, eu⟩ : ∃ u, u = up t 167 26 (t 174 4) := ⟨_, rfl⟩
  have fu : Fr t u := by
    rw [eu]
    exact ⟨fun a h1 _ => up_nk h1, fun j hj => up_ni hj⟩
  obtain ⟨g, e, f, r⟩ := lp (body := md_begins0_b1) (s0 := (0, u)) (Q := fun g => (∀ a, (a < 178 ∨ 182 < a) → g a = u a) ∧ (∀ x, 0 ≤ x → x < t 9 5 → g 179 x = x ∧ g 180 x = x ∧ g 181 x = 0 ∧ g 182 x = 0) ∧ ∀ i, 0 ≤ i → i < 5 * t 9 5 → g 178 i = t 175 i) (fun i s => s.1 = i ∧ (∀ a, (a < 178 ∨ 182 < a) → s.2 a = u a) ∧ (∀ x, 0 ≤ x → x < i → s.2 179 x = x ∧ s.2 180 x = x ∧ s.2 181 x = 0 ∧ s.2 182 x = 0) ∧ ∀ j, 0 ≤ j → j < 5 * i → s.2 178 j = t 175 j) (t 9 5) (by omega) (by omega) ⟨rfl, fun _ _ => rfl, fun x a b => by omega, fun x a b => by omega⟩ (fun i s a b hI => by
    obtain ⟨c, m⟩ := s
    obtain ⟨e, f, r, q⟩ := hI
    dsimp only at e f r q
    subst e
    have x4 : m 174 4 = t 9 5 := by rw [f 174 (by omega), fu.1 174 (by omega) (by omega)]; exact n4
    have x175 : m 175 = t 175 := by rw [f 175 (by omega), fu.1 175 (by omega) (by omega)]
    obtain ⟨m', e', f', r'⟩ := m_beg2 (m := up (up (up (up m 179 c c) 180 c c) 181 c 0) 182 c 0) (p := c) (by omega) (c, m) rfl
    refine ⟨(c + 1, m'), ?_, rfl, ?_, ?_, ?_⟩
    · simp (disch := omega) only [md_begins0_b1, md_people, bd_some, x4, wr_id, if_pos, chk_t, lt_eq, e']
    · intro a' ha
      try dsimp only
      rw [f' a' (by omega)]
      simp (disch := omega) only [up_nk]
      exact f a' ha
    · intro x h1 h2
      try dsimp only
      rw [f' 179 (by omega), f' 180 (by omega), f' 181 (by omega), f' 182 (by omega)]
      by_cases ex : x = c
      · subst ex
        simp (disch := omega) only [up_nk, up_eq, and_self]
      · simp (disch := omega) only [up_ni]
        exact r x h1 (by omega)
    · intro j h1 h2
      try dsimp only
      rw [r' j h1 (by omega)]
      by_cases g1 : c * 5 ≤ j ∧ j < c * 5 + 5
      · rw [if_pos g1]
        simp (disch := omega) only [up_nk, x175]
      · rw [if_neg g1]
        simp (disch := omega) only [up_nk]
        exact q j h1 (by omega)) (fun s hI => by
    obtain ⟨c, m⟩ := s
    obtain ⟨e, f, r, q⟩ := hI
    dsimp only at e f r q
    subst e
    have x4 : m 174 4 = t 9 5 := by rw [f 174 (by omega), fu.1 174 (by omega) (by omega)]; exact n4
    exact ⟨m, by simp (disch := omega) only [md_begins0_b1, md_people, bd_some, x4, wr_id, if_neg], f, r, q⟩)
  have fg : Fr t g := Fr_trans fu ⟨fun a h1 h2 => f a (by omega), fun j _ => by rw [f 167 (by omega)]⟩
  have fr9 : ∀ a, (9 ≤ a ∧ a ≤ 14) ∨ (173 ≤ a ∧ a ≤ 176) → g a = t a := fun a ha => fg.1 a (by omega) (by omega)
  have ok := bgS_ok hL
  have hM : MB g (bgS (t 9) (t 10)) := by
    refine ⟨?_, ?_, ?_, ?_, ?_, ?_⟩
    · rw [fr9 174 (by omega)]; exact n0
    · rw [fr9 174 (by omega)]; exact n1
    · rw [fr9 174 (by omega)]; exact n4
    · rw [f 167 (by omega), eu, up_eq]; exact n4
    · intro i h1 h2
      have h2' : i < 5 * t 9 5 := h2
      rw [r.2 i h1 h2', nT i h1 h2']
      show _ = if 0 ≤ i ∧ i < 30 then t 10 i else 0
      rw [if_pos (by omega)]
    · intro x h1 h2
      have := r.1 x h1 h2
      exact ⟨this.1, this.2.1, this.2.2.1.trans bs_zero.symm, this.2.2.2⟩
  have y9 := fr9 9 (by omega)
  have y11 := fr9 11 (by omega)
  have y12 := fr9 12 (by omega)
  have y13 := fr9 13 (by omega)
  have y14 := fr9 14 (by omega)
  obtain ⟨g2, e2, k2, f2⟩ := m_acts (t := g) (S := bgS (t 9) (t 10)) (s := 0) ok.1 ok.2 hM (L0_fr h0 fr9) (by rw [y9]; exact l8) (by
    rw [y9, y11, y12, y13, y14]; exact lA) (by omega)
  rw [y9, y11, y12, y13, y14] at k2
  refine ⟨g2, ?_, k2, Fr_trans fg ⟨fun a h1 h2 => f2 a (by omega), fun j _ => by rw [f2 167 (by omega)]⟩⟩
  unfold md_begins0
  simp only [md_people, bd_some, lt_eq]
  rw [← eu, e, bd_some, e2]; rfl
/-! how a season passes -/
def Zk (S : Sn) : Prop := ∀ p k, 0 ≤ p → p < 6 → sK S ≤ k → k < 5 → sT S (p * 5 + k) = 0
theorem guS_lt {S : Sn} (hW : WF S) (p who : Int) : guS S p who = -1 ∨ guS S p who < sK S := by
  rcases fv_mem (sT S) p (alS S who) (n := 5) (by omega) with h | h
  · exact Or.inl h
  · refine Or.inr ?_
    by_cases g : fv (sT S) p (alS S who) 5 < sK S
    · exact g
    · rw [alS_lt hW who (by omega)] at h; exact absurd h (by simp)
theorem grS_lt {S : Sn} (hW : WF S) (p : Int) : grS S p = -1 ∨ grS S p < sK S := guS_lt hW _ _
theorem eat_z {S : Sn} (hW : WF S) (hZ : Zk S) {p k : Int} (hp : 0 ≤ p ∧ p < 6) (hk : sK S ≤ k ∧ k < 5) : eatT S (p * 5 + k) = 0 := by
  have h0 := hW.1
  have d1 : (p * 5 + k) / 5 = p := by omega
  have d2 : (p * 5 + k) % 5 = k := by omega
  have := grS_lt hW p
  unfold eatT
  rw [d1, d2, if_neg (by omega)]
  exact hZ p k hp.1 hp.2 hk.1 hk.2
theorem Zk_nx {S : Sn} {f : Int} (hW : WF S) (hZ : Zk S) : Zk (nxS f S) := by
  intro p k h1 h2 h3 h4
  have h3' : sK S ≤ k := h3
  have h0 := hW.1
  show (if 0 ≤ p * 5 + k ∧ p * 5 + k < 30 then fadT f (eatT S (p * 5 + k)) else 0) = 0
  rw [if_pos (by omega), eat_z hW hZ ⟨h1, h2⟩ ⟨h3', h4⟩]; rfl
theorem seN_Zk {l t a0 a1 a2 a3 : Int → Int} (hL : LOk l t a0 a1 a2 a3) (s : Nat) : Zk (seN l t a0 a1 a2 a3 s) := by
  have hn := hL.2.2.2.2.2.2.2.1
  have hA := hL.2.2.2.2.2.2.2.2.2.2.1
  have hZ := hL.2.2.2.2.2.2.2.2.2.1
  have hK := hL.2.1
  induction s with
  | zero =>
    have hb := bgS_ok hL
    have := acI_ok (S := bgS l t) hA 0 hb.1 hb.2 (l 8) hn.1 (Int.le_refl _)
    intro p k h1 h2 h3 h4
    show sT (acI a0 a1 a2 a3 0 (bgS l t) (l 8)) (p * 5 + k) = 0
    have h3' : sK (acI a0 a1 a2 a3 0 (bgS l t) (l 8)) ≤ k := h3
    rw [this.2.2.1] at h3'
    have h5 : l 1 ≤ k := h3'
    rw [this.2.2.2.2.2.2]
    show (if 0 ≤ p * 5 + k ∧ p * 5 + k < 30 then t (p * 5 + k) else 0) = 0
    rw [if_pos (by omega)]
    exact hZ p k h1 h2 h5 h4
  | succ s ih =>
    have ok := seN_ok hL s
    have hW' := nxS_WF (f := l 3) hL.2.2.2.1 ok.1
    have hA' : ActOk a0 a1 a2 a3 (l 8) (sP (nxS (l 3) (seN l t a0 a1 a2 a3 s))) (sK (nxS (l 3) (seN l t a0 a1 a2 a3 s))) := by
      show ActOk a0 a1 a2 a3 (l 8) (sP (seN l t a0 a1 a2 a3 s)) (sK (seN l t a0 a1 a2 a3 s))
      rw [ok.2.2.2.2.1, ok.2.2.1]; exact hA
    have := acI_ok hA' ((s : Int) + 1) hW' ok.2.1 (l 8) hn.1 (Int.le_refl _)
    have hz := Zk_nx (f := l 3) ok.1 ih
    intro p k h1 h2 h3 h4
    show sT (acI a0 a1 a2 a3 ((s : Int) + 1) (nxS (l 3) (seN l t a0 a1 a2 a3 s)) (l 8)) (p * 5 + k) = 0
    have h3' : sK (acI a0 a1 a2 a3 ((s : Int) + 1) (nxS (l 3) (seN l t a0 a1 a2 a3 s)) (l 8)) ≤ k := h3
    rw [this.2.2.1] at h3'
    rw [this.2.2.2.2.2.2]
    exact hz p k h1 h2 h3' h4
theorem m_pas2 {m : Hp} {S : Sn} {f p : Int} (hf : 0 ≤ f ∧ f ≤ 3) (hW : WF S) (hZ : Zk S) (hp : 0 ≤ p ∧ p < sP S) (z : Int × Hp) (hz : z.1 = p) (c0 : m 174 0 = sK S) (cf : m 174 2 = f) (cT : ∀ k, 0 ≤ k → k < 5 → m 178 (p * 5 + k) = eatT S (p * 5 + k)) : ∃ m', iter FU (md_passes_b2 z) (0, m) = some m' ∧ (∀ a, a ≠ 178 → m' a = m a) ∧ (∀ k, 0 ≤ k → k < 5 → m' 178 (p * 5 + k) = fadT f (eatT S (p * 5 + k))) ∧ ∀ i, (i < p * 5 ∨ p * 5 + 5 ≤ i) → m' 178 i = m 178 i := by
  have hK := hW.1
  have hP := hW.2.2.1
  obtain ⟨g, e, r1, r2, r3⟩ := lp (body := md_passes_b2 z) (s0 := (0, m)) (Q := fun g => (∀ a, a ≠ 178 → g a = m a) ∧ (∀ k, 0 ≤ k → k < 5 → g 178 (p * 5 + k) = if k < sK S then fadT f (eatT S (p * 5 + k)) else eatT S (p * 5 + k)) ∧ ∀ i, (i < p * 5 ∨ p * 5 + 5 ≤ i) → g 178 i = m 178 i) (fun i s => s.1 = i ∧ (∀ a, a ≠ 178 → s.2 a = m a) ∧ (∀ k, 0 ≤ k → k < 5 → s.2 178 (p * 5 + k) = if k < i then fadT f (eatT S (p * 5 + k)) else eatT S (p * 5 + k)) ∧ ∀ j, (j < p * 5 ∨ p * 5 + 5 ≤ j) → s.2 178 j = m 178 j) (sK S) (by omega) (by omega) ⟨rfl, fun _ _ => rfl, fun k a b => by rw [if_neg (by omega)]; exact cT k a b, fun _ _ => rfl⟩ (fun i s a b hI => by
    obtain ⟨c, g⟩ := s
    obtain ⟨e, f1, r, q⟩ := hI
    dsimp only at e f1 r q
    subst e
    have e2 : 5 * p + c = p * 5 + c := by omega
    have x0 : g 174 0 = sK S := by rw [f1 174 (by omega)]; exact c0
    have x2 : g 174 2 = f := by rw [f1 174 (by omega)]; exact cf
    have rc := r c a (by omega)
    rw [if_neg (by omega)] at rc
    have ht := eatT_in hW (p * 5 + c)
    have em : md_tasteOf g p c = some (eatT S (p * 5 + c)) := by
      unfold md_tasteOf
      simp (disch := omega) only [e2, wr_id, chk_t, rc]
    by_cases q1 : eatT S (p * 5 + c) < 0
    · have hfad : fadT f (eatT S (p * 5 + c)) = if 0 < eatT S (p * 5 + c) + f then 0 else eatT S (p * 5 + c) + f := by unfold fadT; rw [if_pos q1]
      refine ⟨(c + 1, up g 178 (p * 5 + c) (fadT f (eatT S (p * 5 + c)))), ?_, rfl, ?_, ?_, ?_⟩
      · by_cases q2 : 0 < eatT S (p * 5 + c) + f
        · rw [hfad, if_pos q2]
          simp (disch := omega) only [md_passes_b2, md_kindsAll, bd_some, x0, x2, hz, em, e2, wr_id, if_pos, chk_t, lt_eq]
        · rw [hfad, if_neg q2]
          simp (disch := omega) only [md_passes_b2, md_kindsAll, bd_some, x0, x2, hz, em, e2, wr_id, if_pos, if_neg, chk_t, lt_eq]
      · intro a' h1
        try dsimp only
        rw [up_nk h1]; exact f1 a' h1
      · intro k h1 h2
        try dsimp only
        by_cases ek : k = c
        · rw [ek, up_eq, if_pos (by omega)]
        · rw [up_ni (by omega), r k h1 h2]
          by_cases g1 : k < c
          · rw [if_pos g1, if_pos (by omega)]
          · rw [if_neg g1, if_neg (by omega)]
      · intro j hj
        try dsimp only
        rw [up_ni (by omega)]; exact q j hj
    · refine ⟨(c + 1, g), ?_, rfl, f1, ?_, q⟩
      · simp (disch := omega) only [md_passes_b2, md_kindsAll, bd_some, x0, hz, em, wr_id, if_pos, if_neg]
      · intro k h1 h2
        try dsimp only
        rw [r k h1 h2]
        by_cases ek : k = c
        · rw [ek, if_neg (by omega), if_pos (by omega)]
          unfold fadT; rw [if_neg q1]
        · by_cases g1 : k < c
          · rw [if_pos g1, if_pos (by omega)]
          · rw [if_neg g1, if_neg (by omega)]) (fun s hI => by
    obtain ⟨c, g⟩ := s
    obtain ⟨e, f1, r, q⟩ := hI
    dsimp only at e f1 r q
    subst e
    have x0 : g 174 0 = sK S := by rw [f1 174 (by omega)]; exact c0
    exact ⟨g, by simp (disch := omega) only [md_passes_b2, md_kindsAll, bd_some, x0, wr_id, if_neg], f1, r, q⟩)
  refine ⟨g, e, r1, ?_, r3⟩
  intro k h1 h2
  rw [r2 k h1 h2]
  by_cases g1 : k < sK S
  · rw [if_pos g1]
  · rw [if_neg g1, eat_z hW hZ (by omega) (by omega)]; rfl
theorem m_passes {t : Hp} {s : Nat} (hs : s < 13) (h0 : L0 t) (hL : LOk9 t) (hM : MB t (Sea t s)) (hG : ∀ p, 0 ≤ p → p < t 9 5 → t 183 p = grS (Sea t s) p) : ∃ t', md_passes t (s : Int) = some t' ∧ MB t' (Sea t (s + 1)) ∧ MA t' (Sea t (s + 1)) ∧ Fr t t' := by
  have hL' := hL
  have h0' := h0
  obtain ⟨l0, l1, l2, l3, l4, l5, l6, l8, lT, lZ, lA, lx⟩ := hL'
  obtain ⟨n6, n0, n1, n2, n3, n4, n5, nT, nA⟩ := h0'
  obtain ⟨hW, hF, eK, eL, eP, eN⟩ : WF (Sea t s) ∧ Full (Sea t s) ∧ sK (Sea t s) = t 9 1 ∧ sL (Sea t s) = t 9 2 ∧ sP (Sea t s) = t 9 5 ∧ sN (Sea t s) = t 9 5 := seN_ok hL s
  have hZ : Zk (Sea t s) := seN_Zk hL s
  have hok' := seN_ok hL (s + 1)
  have eS : Sea t (s + 1) = acI (t 11) (t 12) (t 13) (t 14) ((s : Int) + 1) (nxS (t 9 3) (Sea t s)) (t 9 8) := rfl
  have hok : WF (Sea t (s + 1)) ∧ Full (Sea t (s + 1)) := ⟨hok'.1, hok'.2.1⟩
  rw [eS] at hok
  rw [eS]
  generalize Sea t s = S at hM hG hW hF eK eL eP eN hZ hok
  obtain ⟨c0, c1, c2, c3, cT, cR⟩ := hM
  obtain ⟨g, e, f, r⟩ := lp (body := md_passes_b1) (s0 := (0, t)) (Q := fun g => (∀ a, a ≠ 178 → g a = t a) ∧ ∀ i, 0 ≤ i → i < 5 * sP S → g 178 i = fadT (t 9 3) (eatT S i)) (fun i m => m.1 = i ∧ (∀ a, a ≠ 178 → m.2 a = t a) ∧ ∀ j, 0 ≤ j → j < 5 * sP S → m.2 178 j = if j < 5 * i then fadT (t 9 3) (eatT S j) else sT S j) (sP S) (by omega) (by omega) ⟨rfl, fun _ _ => rfl, fun j a b => by rw [if_neg (by omega)]; exact cT j a b⟩ (fun i m a b hI => by
    obtain ⟨c, m⟩ := m
    obtain ⟨e, f1, r⟩ := hI
    dsimp only at e f1 r
    subst e
    have x4 : m 174 4 = sP S := by rw [f1 174 (by omega)]; exact c2
    have x183 : m 183 c = grS S c := by rw [f1 183 (by omega)]; exact hG c a (by omega)
    have hg := grS_in S c
    have hgl := grS_lt hW c
    -- eaten
    have hb : ∃ m1, (if wr (m 183 c) = wr (-1) then some m else chk (0 ≤ wr c ∧ wr c < 6) (Option.bind (md_tasteOf m c (m 183 c)) (fun r7 => if wr r7 < wr 9 then chk (0 ≤ wr c ∧ wr c < 6) (chk (0 ≤ wr ((5 * c) + (m 183 c)) ∧ wr ((5 * c) + (m 183 c)) < 30) (chk (0 ≤ wr ((5 * c) + (m 183 c)) ∧ wr ((5 * c) + (m 183 c)) < 30) (lt (up m 178 (wr ((5 * c) + (m 183 c))) ((m 178 (wr ((5 * c) + (m 183 c)))) + 1)) (fun h11 => some h11)))) else some m))) = some m1 ∧ (∀ a, a ≠ 178 → m1 a = t a) ∧ (∀ k, 0 ≤ k → k < 5 → m1 178 (c * 5 + k) = eatT S (c * 5 + k)) ∧ ∀ i, (i < c * 5 ∨ c * 5 + 5 ≤ i) → m1 178 i = m 178 i := by
      have rr : ∀ k, 0 ≤ k → k < 5 → m 178 (c * 5 + k) = sT S (c * 5 + k) := by
        intro k h1 h2
        rw [r _ (by omega) (by omega), if_neg (by omega)]
      have dd : ∀ k, 0 ≤ k → k < 5 → (c * 5 + k) / 5 = c ∧ (c * 5 + k) % 5 = k := by
        intro k h1 h2; omega
      rw [x183]
      by_cases q1 : grS S c = -1
      · refine ⟨m, by rw [q1, if_pos rfl], f1, ?_, fun _ _ => rfl⟩
        intro k h1 h2
        rw [rr k h1 h2]
        unfold eatT
        rw [(dd k h1 h2).1, (dd k h1 h2).2, if_neg (by omega)]
      · have e2 : 5 * c + grS S c = c * 5 + grS S c := by omega
        have rg := rr (grS S c) (by omega) (by omega)
        have ht := hW.2.2.2.2.1 (c * 5 + grS S c)
        have et : md_tasteOf m c (grS S c) = some (sT S (c * 5 + grS S c)) := by
          unfold md_tasteOf
          have hP := hW.2.2.1
          simp (disch := omega) only [e2, wr_id, chk_t, rg]
        have hP := hW.2.2.1
        by_cases q2 : sT S (c * 5 + grS S c) < 9
        · refine ⟨up m 178 (c * 5 + grS S c) (sT S (c * 5 + grS S c) + 1), ?_, ?_, ?_, ?_⟩
          · simp (disch := omega) only [e2, wr_id, if_pos, if_neg, chk_t, et, bd_some, rg, lt_eq]
          · intro a' h1
            rw [up_nk h1]; exact f1 a' h1
          · intro k h1 h2
            by_cases ek : k = grS S c
            · rw [ek, up_eq]
              unfold eatT
              rw [(dd _ (by omega) (by omega)).1, (dd _ (by omega) (by omega)).2, if_pos (show c < sP S ∧ grS S c = grS S c from ⟨b, rfl⟩), if_pos q2]
            · rw [up_ni (by omega), rr k h1 h2]
              unfold eatT
              rw [(dd k h1 h2).1, (dd k h1 h2).2, if_neg (by omega)]
          · intro i hi
            rw [up_ni (by omega)]
        · refine ⟨m, ?_, f1, ?_, fun _ _ => rfl⟩
          · simp (disch := omega) only [e2, wr_id, if_neg, chk_t, et, bd_some]
          · intro k h1 h2
            rw [rr k h1 h2]
            unfold eatT
            rw [(dd k h1 h2).1, (dd k h1 h2).2]
            by_cases ek : grS S c = k
            · rw [if_pos ⟨b, ek⟩, if_neg (by rw [← ek]; exact q2)]
            · rw [if_neg (by omega)]
    obtain ⟨m1, e1, g1, g2, g3⟩ := hb
    have hP := hW.2.2.1
    obtain ⟨m2, e2, k1, k2, k3⟩ := m_pas2 (m := m1) (f := t 9 3) l3 hW hZ ⟨a, b⟩ (c, m) rfl (by rw [g1 174 (by omega)]; exact c0) (by rw [g1 174 (by omega)]; exact n2) g2
    refine ⟨(c + 1, m2), ?_, rfl, ?_, ?_⟩
    · have wc : wr c = c := wr_id (by omega)
      have wP : wr (sP S) = sP S := wr_id (by omega)
      unfold md_passes_b1
      simp only [md_people, bd_some]
      rw [x4, wP, wc, if_pos b, chk_t (by omega)]
      rw [wc] at e1
      rw [e1, bd_some, e2, bd_some]
    · intro a' h1
      try dsimp only
      rw [k1 a' h1, g1 a' h1]
    · intro j h1 h2
      try dsimp only
      by_cases w : c * 5 ≤ j ∧ j < c * 5 + 5
      · have ej : j = c * 5 + (j - c * 5) := by omega
        rw [ej, k2 (j - c * 5) (by omega) (by omega), if_pos (by omega)]
      · rw [k3 j (by omega), g3 j (by omega), r j h1 h2]
        by_cases w2 : j < 5 * c
        · rw [if_pos w2, if_pos (by omega)]
        · rw [if_neg w2, if_neg (by omega)]) (fun m hI => by
    obtain ⟨c, m⟩ := m
    obtain ⟨e, f1, r⟩ := hI
    dsimp only at e f1 r
    subst e
    have hP := hW.2.2.1
    have x4 : m 174 4 = sP S := by rw [f1 174 (by omega)]; exact c2
    refine ⟨m, by simp (disch := omega) only [md_passes_b1, md_people, bd_some, x4, wr_id, if_neg], f1, ?_⟩
    intro i h1 h2
    rw [r i h1 h2, if_pos h2])
  have hP := hW.2.2.1
  have hMg : MB g (nxS (t 9 3) S) := by
    refine ⟨?_, ?_, ?_, ?_, ?_, ?_⟩
    · rw [f 174 (by omega)]; exact c0
    · rw [f 174 (by omega)]; exact c1
    · rw [f 174 (by omega)]; exact c2
    · rw [f 167 (by omega)]; exact c3
    · intro i h1 h2
      have h2' : i < 5 * sP S := h2
      rw [r i h1 h2']
      show _ = if 0 ≤ i ∧ i < 30 then fadT (t 9 3) (eatT S i) else 0
      rw [if_pos (by omega)]
    · rw [f 179 (by omega), f 180 (by omega), f 181 (by omega), f 182 (by omega)]; exact cR
  have fr9 : ∀ a, (9 ≤ a ∧ a ≤ 14) ∨ (173 ≤ a ∧ a ≤ 176) → g a = t a := fun a ha => f a (by omega)
  have y9 := fr9 9 (by omega)
  have y11 := fr9 11 (by omega)
  have y12 := fr9 12 (by omega)
  have y13 := fr9 13 (by omega)
  have y14 := fr9 14 (by omega)
  obtain ⟨g2, e2, k2, f2⟩ := m_acts (t := g) (S := nxS (t 9 3) S) (s := (s : Int) + 1) (nxS_WF l3 hW) hF hMg (L0_fr h0 fr9) (by rw [y9]; exact l8) (by
    rw [y9, y11, y12, y13, y14]
    show ActOk (t 11) (t 12) (t 13) (t 14) (t 9 8) (sP S) (sK S)
    rw [eP, eK]; exact lA) (by omega)
  rw [y9, y11, y12, y13, y14] at k2
  obtain ⟨g3, e3, k3, f3⟩ := m_grow hok.1 (MB_MP hok.1 hok.2 k2)
  refine ⟨g3, ?_, ?_, k3, ?_⟩
  · unfold md_passes
    rw [e, bd_some, e2, bd_some, e3]; rfl
  · obtain ⟨d0, d1, d2, d3, dT, dR⟩ := k2
    refine ⟨?_, ?_, ?_, ?_, ?_, ?_⟩
    · rw [f3 174 (by omega)]; exact d0
    · rw [f3 174 (by omega)]; exact d1
    · rw [f3 174 (by omega)]; exact d2
    · rw [f3 167 (by omega)]; exact d3
    · rw [f3 178 (by omega)]; exact dT
    · rw [f3 179 (by omega), f3 180 (by omega), f3 181 (by omega), f3 182 (by omega)]; exact dR
  · exact ⟨fun a h1 h2 => by rw [f3 a (by omega), f2 a (by omega), f a (by omega)], fun j _ => by rw [f3 167 (by omega), f2 167 (by omega), f 167 (by omega)]⟩
theorem m_laysFirst {t : Hp} (h0 : L0 t) (hL : LOk9 t) : ∃ t', md_laysFirst t = some t' ∧ MB t' (Sea t 0) ∧ MA t' (Sea t 0) ∧ Fr t t' := by
  obtain ⟨g, e, k, f⟩ := m_begins0 h0 hL
  have ok := seN_ok hL 0
  obtain ⟨g3, e3, k3, f3⟩ := m_grow ok.1 (MB_MP ok.1 ok.2.1 k)
  refine ⟨g3, ?_, ?_, k3, ?_⟩
  · unfold md_laysFirst
    rw [e, bd_some, e3]; rfl
  · obtain ⟨d0, d1, d2, d3, dT, dR⟩ := k
    refine ⟨?_, ?_, ?_, ?_, ?_, ?_⟩
    · rw [f3 174 (by omega)]; exact d0
    · rw [f3 174 (by omega)]; exact d1
    · rw [f3 174 (by omega)]; exact d2
    · rw [f3 167 (by omega)]; exact d3
    · rw [f3 178 (by omega)]; exact dT
    · rw [f3 179 (by omega), f3 180 (by omega), f3 181 (by omega), f3 182 (by omega)]; exact dR
  · exact Fr_trans f ⟨fun a h1 h2 => f3 a (by omega), fun j _ => by rw [f3 167 (by omega)]⟩
theorem m_pass {t m : Hp} {s : Nat} (hs : s < 13) (h0 : L0 t) (hL : LOk9 t) (hf : Fr t m) (hM : MB m (Sea t s)) (hA : MA m (Sea t s)) : ∃ m', md_passes m (s : Int) = some m' ∧ MB m' (Sea t (s + 1)) ∧ MA m' (Sea t (s + 1)) ∧ Fr t m' := by
  have fr9 : ∀ a, (9 ≤ a ∧ a ≤ 14) ∨ (173 ≤ a ∧ a ≤ 176) → m a = t a := fun a ha => hf.1 a (by omega) (by omega)
  have es := Sea_fr (t := t) (t' := m) (fun a ha => fr9 a (Or.inl ha))
  have ok := seN_ok hL s
  obtain ⟨m', e, k1, k2, f⟩ := m_passes (t := m) hs (L0_fr h0 fr9) (L9_fr hL (fun a ha => fr9 a (Or.inl ha))) (by rw [es s]; exact hM) (fun p h1 h2 => by
    rw [es s]
    refine MA_g ok.2.1 hA ⟨h1, ?_⟩
    rw [fr9 9 (by omega)] at h2
    rw [ok.2.2.2.2.1]; exact h2)
  rw [es (s + 1)] at k1 k2
  exact ⟨m', e, k1, k2, Fr_trans hf f⟩
theorem m_lays {t : Hp} {s : Int} (hs : 0 ≤ s ∧ s ≤ 12) (h0 : L0 t) (hL : LOk9 t) : ∃ t', md_lays t s = some t' ∧ MB t' (Sea t s.toNat) ∧ MA t' (Sea t s.toNat) ∧ Fr t t' := by
  obtain ⟨g, e, k1, k2, f⟩ := m_laysFirst h0 hL
  obtain ⟨g2, e2, r⟩ := lp (body := md_lays_b1 s) (s0 := (0, g)) (Q := fun m => MB m (Sea t s.toNat) ∧ MA m (Sea t s.toNat) ∧ Fr t m) (fun i m => m.1 = i ∧ MB m.2 (Sea t i.toNat) ∧ MA m.2 (Sea t i.toNat) ∧ Fr t m.2) s hs.1 (by omega) ⟨rfl, k1, k2, f⟩ (fun i m a b hI => by
    obtain ⟨c, m⟩ := m
    obtain ⟨e, q1, q2, q3⟩ := hI
    dsimp only at e q1 q2 q3
    subst e
    obtain ⟨m', e', z1, z2, z3⟩ := m_pass (s := c.toNat) (by omega) h0 hL q3 q1 q2
    have ec : ((c.toNat : Nat) : Int) = c := by omega
    rw [ec] at e'
    have en : (c + 1).toNat = c.toNat + 1 := by omega
    refine ⟨(c + 1, m'), ?_, rfl, ?_, ?_, z3⟩
    · simp (disch := omega) only [md_lays_b1, wr_id, if_pos, e', bd_some]
    · rw [en]; exact z1
    · rw [en]; exact z2) (fun m hI => by
    obtain ⟨c, m⟩ := m
    obtain ⟨e, q⟩ := hI
    dsimp only at e q
    subst e
    exact ⟨m, by simp (disch := omega) only [md_lays_b1, wr_id, if_neg], q⟩)
  refine ⟨g2, ?_, r⟩
  unfold md_lays
  rw [e, bd_some, e2]; rfl
