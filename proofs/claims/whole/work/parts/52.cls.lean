/-! Layer 2: the class makes a season -/
theorem CP_fr {h h' : Hp} {o : Nat} {S : Sn} (hC : CP h o S) (hf : ∀ a, o ≤ a → a ≤ o + 3 → h' a = h a) : CP h' o S := by
  obtain ⟨c0, c1, c2, cT, cR, cH⟩ := hC
  unfold CP
  rw [hf o (by omega) (by omega), hf (o + 1) (by omega) (by omega), hf (o + 2) (by omega) (by omega), hf (o + 3) (by omega) (by omega)]
  exact ⟨c0, c1, c2, cT, cR, cH⟩
theorem CA_fr {h h' : Hp} {o : Nat} {S : Sn} (hC : CA h o S) (hf : ∀ a, o ≤ a → a ≤ o + 7 → h' a = h a) : CA h' o S := by
  obtain ⟨hP, c4, c5, c6, c7⟩ := hC
  refine ⟨CP_fr hP (fun a x y => hf a x (by omega)), ?_, ?_, ?_, ?_⟩
  · rw [hf (o + 4) (by omega) (by omega)]; exact c4
  · rw [hf (o + 5) (by omega) (by omega)]; exact c5
  · rw [hf (o + 6) (by omega) (by omega)]; exact c6
  · rw [hf (o + 7) (by omega) (by omega)]; exact c7
theorem c_settle {h : Hp} {o : Nat} {S : Sn} (hW : WF S) (hF : Full S) (hC : CP h o S) : ∃ h', sn_settle h o = some h' ∧ CA h' o S ∧ ∀ a, (a < o + 4 ∨ o + 7 < a) → h' a = h a := by
  have hW' := hW
  have hF' := hF
  obtain ⟨hK, hL, hP, hN, hT, hR⟩ := hW'
  obtain ⟨hNP, hQ⟩ := hF'
  obtain ⟨g1, e1, f1, r1⟩ := lp (body := sn_settle_b1 o) (s0 := (0, h)) (Q := fun g => (∀ a, a ≠ o + 4 → a ≠ o + 7 → g a = h a) ∧ (∀ p, 0 ≤ p → p < sP S → g (o + 4) p = bs (opS S p) ∧ g (o + 7) p = 0)) (fun i s => s.1 = i ∧ (∀ a, a ≠ o + 4 → a ≠ o + 7 → s.2 a = h a) ∧ (∀ p, 0 ≤ p → p < i → s.2 (o + 4) p = bs (opS S p) ∧ s.2 (o + 7) p = 0)) (sP S) (by omega) (by omega) ⟨rfl, fun _ _ _ => rfl, fun p a b => by omega⟩ (fun i s a b hI => by
    obtain ⟨c, m⟩ := s
    obtain ⟨e, f, g⟩ := hI
    dsimp only at e f g
    subst e
    have hCm : CP m o S := CP_fr hC (fun a _ _ => f a (by omega) (by omega))
    have e1 := c_hated hW hCm (p := c) (by omega)
    have c2 := hCm.2.2.1
    have cH := hCm.2.2.2.2.2 c a b
    refine ⟨(c + 1, up (up m (o + 4) c (bs (opS S c))) (o + 7) c 0), ?_, rfl, ?_, ?_⟩
    · simp (disch := omega) only [sn_settle_b1, c2, wr_id, if_pos, e1, bd_some, chk_t, lt_eq, cH, bs_andn]
      rfl
    · intro a' h1 h2
      try dsimp only
      rw [up_nk h2, up_nk h1]; exact f a' h1 h2
    · intro p h1 h2
      try dsimp only
      by_cases ep : p = c
      · subst ep
        rw [up_eq, up_nk (by omega), up_eq]; exact ⟨rfl, rfl⟩
      · rw [up_ni ep, up_ni ep, up_ni ep, up_ni ep]
        exact g p h1 (by omega)) (fun s hI => by
    obtain ⟨c, m⟩ := s
    obtain ⟨e, f, g⟩ := hI
    dsimp only at e f g
    subst e
    have c2 : m o 2 = sP S := by rw [f o (by omega) (by omega)]; exact hC.2.2.1
    exact ⟨m, by simp (disch := omega) only [sn_settle_b1, c2, wr_id, if_neg], f, g⟩)
  have hC1 : CP g1 o S := CP_fr hC (fun a _ _ => f1 a (by omega) (by omega))
  obtain ⟨g2, e2, f2, r2⟩ := lp (body := sn_settle_b2 o) (s0 := (0, g1)) (Q := fun g => (∀ a, a ≠ o + 5 → a ≠ o + 6 → g a = g1 a) ∧ (∀ y, 0 ≤ y → y < sP S → g (o + 5) (sR S y) = dpS S (sR S y) ∧ g (o + 6) (sR S y) = grS S (sR S y))) (fun i s => s.1 = i ∧ (∀ a, a ≠ o + 5 → a ≠ o + 6 → s.2 a = g1 a) ∧ (∀ y, 0 ≤ y → y < i → s.2 (o + 5) (sR S y) = dpS S (sR S y) ∧ s.2 (o + 6) (sR S y) = grS S (sR S y))) (sP S) (by omega) (by omega) ⟨rfl, fun _ _ _ => rfl, fun p a b => by omega⟩ (fun i s a b hI => by
    obtain ⟨c, m⟩ := s
    obtain ⟨e, f, g⟩ := hI
    dsimp only at e f g
    subst e
    have hCm : CP m o S := CP_fr hC1 (fun a _ _ => f a (by omega) (by omega))
    have c1 := hCm.2.1
    have c2 := hCm.2.2.1
    have cR := hCm.2.2.2.2.1
    have hr := hR c a (by omega)
    have hd := dpS_in hW hF (p := sR S c) (by omega)
    have ed : sf_deciderAt m (o + 2) (sP S) c (sL S) = some (dpS S (sR S c)) := by
      rw [c_dec (R := sR S) (by omega) hL (by omega) cR]
      unfold dpS; rw [hr.2.2, hNP]
    have hCu : CP (up m (o + 5) (sR S c) (dpS S (sR S c))) o S := CP_fr hCm (fun a _ _ => up_nk (by omega))
    have eg := c_gu hW hCu (fun p h1 h2 => by
      rw [up_nk (by omega), f (o + 4) (by omega) (by omega)]; exact (r1 p h1 h2).1) (p := sR S c) (who := dpS S (sR S c)) (by omega) hd
    refine ⟨(c + 1, up (up m (o + 5) (sR S c) (dpS S (sR S c))) (o + 6) (sR S c) (grS S (sR S c))), ?_, rfl, ?_, ?_⟩
    · simp (disch := omega) only [sn_settle_b2, c1, c2, cR, wr_id, if_pos, ed, bd_some, chk_t, lt_eq, up_eq, eg]
      rfl
    · intro a' h1 h2
      try dsimp only
      rw [up_nk h2, up_nk h1]; exact f a' h1 h2
    · intro y h1 h2
      try dsimp only
      by_cases ep : y = c
      · subst ep
        rw [up_eq, up_nk (by omega), up_eq]; exact ⟨rfl, rfl⟩
      · have hy := hR y h1 (by omega)
        have ne : sR S y ≠ sR S c := by intro z; rw [z] at hy; omega
        rw [up_ni ne, up_ni ne, up_ni ne, up_ni ne]
        exact g y h1 (by omega)) (fun s hI => by
    obtain ⟨c, m⟩ := s
    obtain ⟨e, f, g⟩ := hI
    dsimp only at e f g
    subst e
    have c2 : m o 2 = sP S := by rw [f o (by omega) (by omega)]; exact hC1.2.2.1
    exact ⟨m, by simp (disch := omega) only [sn_settle_b2, c2, wr_id, if_neg], f, g⟩)
  have hC2 : CP g2 o S := CP_fr hC1 (fun a _ _ => f2 a (by omega) (by omega))
  have r2' : ∀ p, 0 ≤ p → p < sP S → g2 (o + 5) p = dpS S p ∧ g2 (o + 6) p = grS S p := by
    intro p h1 h2
    have hq := hQ p h1 h2
    have := r2 (sQ S p) hq.1 hq.2.1
    rw [hq.2.2] at this
    exact this
  obtain ⟨g3, e3, f3, r3⟩ := lp (body := sn_settle_b3 o) (s0 := (0, g2)) (Q := fun g => (∀ a, a ≠ o + 7 → g a = g2 a) ∧ (∀ p, 0 ≤ p → p < sP S → g (o + 7) p = snS S p)) (fun i s => s.1 = i ∧ (∀ a, a ≠ o + 7 → s.2 a = g2 a) ∧ (∀ p, 0 ≤ p → p < sP S → s.2 (o + 7) p = sm i (fun q => if dpS S q = p then stS S q p (grS S q) else 0))) (sP S) (by omega) (by omega) ⟨rfl, fun _ _ => rfl, fun p a b => by
      dsimp only
      rw [f2 (o + 7) (by omega) (by omega), (r1 p a b).2, sm_zero]⟩ (fun i s a b hI => by
    obtain ⟨c, m⟩ := s
    obtain ⟨e, f, g⟩ := hI
    dsimp only at e f g
    subst e
    have hCm : CP m o S := CP_fr hC2 (fun a _ _ => f a (by omega))
    have c2 := hCm.2.2.1
    have h5 : m (o + 5) c = dpS S c := by rw [f (o + 5) (by omega)]; exact (r2' c a b).1
    have h6 : m (o + 6) c = grS S c := by rw [f (o + 6) (by omega)]; exact (r2' c a b).2
    have hd := dpS_in hW hF (p := c) ⟨a, b⟩
    by_cases ed : dpS S c = -1
    · refine ⟨(c + 1, m), ?_, rfl, f, ?_⟩
      · simp (disch := omega) only [sn_settle_b3, c2, wr_id, if_pos, if_true, chk_t, h5, ed, bd_some]
      · intro p h1 h2
        try dsimp only
        rw [g p h1 h2, sm_succ a, if_neg (by omega)]; omega
    · have es := c_st hW hCm (p := c) (who := dpS S c) (k := grS S c) (by omega) (by omega) (grS_in S c)
      refine ⟨(c + 1, up m (o + 7) (dpS S c) (m (o + 7) (dpS S c) + stS S c (dpS S c) (grS S c))), ?_, rfl, ?_, ?_⟩
      · simp (disch := omega) only [sn_settle_b3, c2, wr_id, if_pos, if_neg, chk_t, h5, h6, es, bd_some, lt_eq]
      · intro a' h1
        try dsimp only
        rw [up_nk h1]; exact f a' h1
      · intro p h1 h2
        try dsimp only
        rw [sm_succ a]
        by_cases ep : dpS S c = p
        · subst ep
          rw [up_eq, if_pos rfl, g _ h1 h2]
        · rw [up_ni (by omega), if_neg ep, g p h1 h2]; omega) (fun s hI => by
    obtain ⟨c, m⟩ := s
    obtain ⟨e, f, g⟩ := hI
    dsimp only at e f g
    subst e
    have c2 : m o 2 = sP S := by rw [f o (by omega)]; exact hC2.2.2.1
    exact ⟨m, by simp (disch := omega) only [sn_settle_b3, c2, wr_id, if_neg], f, g⟩)
  refine ⟨g3, ?_, ⟨CP_fr hC2 (fun a _ _ => f3 a (by omega)), ?_, ?_, ?_, r3⟩, ?_⟩
  · unfold sn_settle
    rw [e1, bd_some, e2, bd_some, e3]; rfl
  · intro p h1 h2
    try dsimp only
    rw [f3 _ (by omega), f2 _ (by omega) (by omega)]; exact (r1 p h1 h2).1
  · intro p h1 h2
    try dsimp only
    rw [f3 _ (by omega)]; exact (r2' p h1 h2).1
  · intro p h1 h2
    try dsimp only
    rw [f3 _ (by omega)]; exact (r2' p h1 h2).2
  · intro a ha
    try dsimp only
    rw [f3 _ (by omega), f2 _ (by omega) (by omega), f1 _ (by omega) (by omega)]
/-! rows taken over -/
theorem cpy_nk {h : Hp} {k0 k1 a : Nat} {sp dp n : Int} (e : a ≠ k1) : cpy h k0 k1 sp dp n a = h a := by funext j; simp [cpy, e]
theorem cpy_in {h : Hp} {k0 k1 : Nat} {sp dp n j : Int} (e : dp ≤ j ∧ j < dp + n) : cpy h k0 k1 sp dp n k1 j = h k0 (sp + (j - dp)) := by simp [cpy, e]
theorem cpy_out {h : Hp} {k0 k1 : Nat} {sp dp n j : Int} (e : ¬ (dp ≤ j ∧ j < dp + n)) : cpy h k0 k1 sp dp n k1 j = h k1 j := by simp only [cpy, true_and]; rw [if_neg e]
theorem c_takeFrom {h : Hp} {o o0 : Nat} {S : Sn} (hP : sP S ≤ 6) (hC : CP h o0 S) (hne : o0 + 3 < o ∨ o + 3 < o0) : ∃ h', sn_takeFrom h o o0 = some h' ∧ CP h' o S ∧ ∀ a, (a < o ∨ o + 3 < a) → h' a = h a := by
  obtain ⟨c0, c1, c2, cT, cR, cH⟩ := hC
  refine ⟨_, by simp (disch := omega) only [sn_takeFrom, lt_eq, wr_id, chk_t]; rfl, ⟨?_, ?_, ?_, ?_, ?_, ?_⟩, ?_⟩
  · simp (disch := omega) only [cpy_nk, up_nk, up_ni, up_eq, c0]
  · simp (disch := omega) only [cpy_nk, up_nk, up_ni, up_eq, c1]
  · simp (disch := omega) only [cpy_nk, up_nk, up_ni, up_eq, c2]
  · intro i a b
    try dsimp only
    simp (disch := omega) only [cpy_nk, cpy_in, up_nk, Int.sub_zero, Int.zero_add, cT]
  · intro i a b
    try dsimp only
    simp (disch := omega) only [cpy_nk, cpy_in, up_nk, Int.sub_zero, Int.zero_add, cR]
  · intro i a b
    try dsimp only
    simp (disch := omega) only [cpy_nk, cpy_in, up_nk, Int.sub_zero, Int.zero_add, cH]
  · intro a ha
    try dsimp only
    simp (disch := omega) only [cpy_nk, up_nk]
/-! how a season follows -/
def eatT (S : Sn) (i : Int) : Int := if i / 5 < sP S ∧ grS S (i / 5) = i % 5 then (if sT S i < 9 then sT S i + 1 else sT S i) else sT S i
def fadT (f t : Int) : Int := if t < 0 then (if 0 < t + f then 0 else t + f) else t
def nxS (f : Int) (S : Sn) : Sn := (sK S, sL S, sP S, sN S, (fun i => if 0 ≤ i ∧ i < 30 then fadT f (eatT S i) else 0), sR S, sQ S, sH S)
theorem eatT_in {S : Sn} (hW : WF S) (i : Int) : -9 ≤ eatT S i ∧ eatT S i ≤ 9 := by
  have := hW.2.2.2.2.1 i
  unfold eatT
  split
  · split <;> omega
  · exact this
theorem fadT_in {f t : Int} (hf : 0 ≤ f ∧ f ≤ 3) (ht : -9 ≤ t ∧ t ≤ 9) : -9 ≤ fadT f t ∧ fadT f t ≤ 9 := by
  unfold fadT
  split
  · split <;> omega
  · exact ht
theorem nxS_WF {S : Sn} {f : Int} (hf : 0 ≤ f ∧ f ≤ 3) (hW : WF S) : WF (nxS f S) := by
  have hW' := hW
  obtain ⟨hK, hL, hP, hN, hT, hR⟩ := hW'
  refine ⟨hK, hL, hP, hN, ?_, hR⟩
  intro i
  show -9 ≤ (if 0 ≤ i ∧ i < 30 then fadT f (eatT S i) else 0) ∧ (if 0 ≤ i ∧ i < 30 then fadT f (eatT S i) else 0) ≤ 9
  split
  · exact fadT_in hf (eatT_in hW i)
  · omega
theorem c_followOn {h : Hp} {o o0 : Nat} {S : Sn} {f : Int} (hf : 0 ≤ f ∧ f ≤ 3) (hW : WF S) (hC : CA h o0 S) (hne : o0 + 7 < o ∨ o + 7 < o0) : ∃ h', sn_followOn h o o0 f = some h' ∧ CP h' o (nxS f S) ∧ ∀ a, (a < o ∨ o + 3 < a) → h' a = h a := by
  have hW' := hW
  obtain ⟨hK, hL, hP, hN, hT, hR⟩ := hW'
  obtain ⟨g1, e1, hC1, f1⟩ := c_takeFrom (o := o) hP.2 hC.1 (by omega)
  obtain ⟨c0, c1, c2, cT, cR, cH⟩ := hC1
  have cG : ∀ p, 0 ≤ p → p < sP S → g1 (o0 + 6) p = grS S p := by
    intro p a b
    rw [f1 (o0 + 6) (by omega)]; exact hC.2.2.2.1 p a b
  obtain ⟨g2, e2, f2, r2⟩ := lp (body := sn_followOn_b1 o o0) (s0 := (0, g1)) (Q := fun g => (∀ a, a ≠ o + 1 → g a = g1 a) ∧ (∀ i, 0 ≤ i → i < 30 → g (o + 1) i = eatT S i)) (fun i s => s.1 = i ∧ (∀ a, a ≠ o + 1 → s.2 a = g1 a) ∧ (∀ j, 0 ≤ j → j < 30 → s.2 (o + 1) j = if j < 5 * i then eatT S j else sT S j)) (sP S) (by omega) (by omega) ⟨rfl, fun _ _ => rfl, fun j a b => by rw [if_neg (by omega)]; exact cT j a b⟩ (fun i s a b hI => by
    obtain ⟨c, m⟩ := s
    obtain ⟨e, f', g⟩ := hI
    dsimp only at e f' g
    subst e
    have m2 : m o 2 = sP S := by rw [f' o (by omega)]; exact c2
    have m6 : m (o0 + 6) c = grS S c := by rw [f' (o0 + 6) (by omega)]; exact cG c a b
    have hg := grS_in S c
    by_cases eg : grS S c = -1
    · refine ⟨(c + 1, m), ?_, rfl, f', ?_⟩
      · simp (disch := omega) only [sn_followOn_b1, m2, m6, wr_id, if_pos, if_true, chk_t, eg, bd_some]
      · intro j h1 h2
        try dsimp only
        rw [g j h1 h2]
        by_cases c5 : j < 5 * c
        · rw [if_pos c5, if_pos (by omega)]
        · rw [if_neg c5]
          by_cases c6 : j < 5 * (c + 1)
          · rw [if_pos c6]
            have ej : j / 5 = c := by omega
            unfold eatT
            rw [ej, eg, if_neg (by omega)]
          · rw [if_neg c6]
    · have gt := g (c * 5 + grS S c) (by omega) (by omega)
      rw [if_neg (by omega)] at gt
      have ht := hT (c * 5 + grS S c)
      refine ⟨(c + 1, up m (o + 1) (c * 5 + grS S c) (if sT S (c * 5 + grS S c) < 9 then sT S (c * 5 + grS S c) + 1 else sT S (c * 5 + grS S c))), ?_, rfl, ?_, ?_⟩
      · have em : imin (sT S (c * 5 + grS S c) + 1) 9 = if sT S (c * 5 + grS S c) < 9 then sT S (c * 5 + grS S c) + 1 else sT S (c * 5 + grS S c) := by
          unfold imin
          rw [wr_id (by omega), wr_id (by omega)]
          split <;> split <;> omega
        simp (disch := omega) only [sn_followOn_b1, m2, m6, wr_id, if_pos, if_neg, chk_t, gt, bd_some, lt_eq, em]
      · intro a' h1
        try dsimp only
        rw [up_nk h1]; exact f' a' h1
      · intro j h1 h2
        try dsimp only
        by_cases ej : j = c * 5 + grS S c
        · subst ej
          rw [up_eq, if_pos (show c * 5 + grS S c < 5 * (c + 1) by omega)]
          have d1 : (c * 5 + grS S c) / 5 = c := by omega
          have d2 : (c * 5 + grS S c) % 5 = grS S c := by omega
          unfold eatT
          rw [d1, d2, if_pos (show c < sP S ∧ grS S c = grS S c from ⟨b, rfl⟩)]
        · rw [up_ni ej, g j h1 h2]
          by_cases c5 : j < 5 * c
          · rw [if_pos c5, if_pos (by omega)]
          · rw [if_neg c5]
            by_cases c6 : j < 5 * (c + 1)
            · rw [if_pos c6]
              have dj : j / 5 = c := by omega
              unfold eatT
              rw [dj, if_neg (by omega)]
            · rw [if_neg c6]) (fun s hI => by
    obtain ⟨c, m⟩ := s
    obtain ⟨e, f', g⟩ := hI
    dsimp only at e f' g
    subst e
    have m2 : m o 2 = sP S := by rw [f' o (by omega)]; exact c2
    refine ⟨m, by simp (disch := omega) only [sn_followOn_b1, m2, wr_id, if_neg], f', ?_⟩
    intro j h1 h2
    rw [g j h1 h2]
    by_cases c5 : j < 5 * sP S
    · rw [if_pos c5]
    · rw [if_neg c5]
      unfold eatT
      rw [if_neg (by omega)])
  obtain ⟨g3, e3, f3, r3⟩ := lp (body := sn_followOn_b2 o f) (s0 := (0, g2)) (Q := fun g => (∀ a, a ≠ o + 1 → g a = g2 a) ∧ (∀ i, 0 ≤ i → i < 30 → g (o + 1) i = fadT f (eatT S i))) (fun i s => s.1 = i ∧ (∀ a, a ≠ o + 1 → s.2 a = g2 a) ∧ (∀ j, 0 ≤ j → j < 30 → s.2 (o + 1) j = if j < i then fadT f (eatT S j) else eatT S j)) 30 (by omega) (by omega) ⟨rfl, fun _ _ => rfl, fun j a b => by rw [if_neg (by omega)]; exact r2 j a b⟩ (fun i s a b hI => by
    obtain ⟨c, m⟩ := s
    obtain ⟨e, f', g⟩ := hI
    dsimp only at e f' g
    subst e
    have gt := g c a b
    rw [if_neg (by omega)] at gt
    have ht := eatT_in hW c
    by_cases eg : eatT S c < 0
    · have em : imin (eatT S c + f) 0 = fadT f (eatT S c) := by
        unfold imin fadT
        rw [wr_id (by omega), wr_id (by omega), if_pos eg]
      refine ⟨(c + 1, up m (o + 1) c (fadT f (eatT S c))), ?_, rfl, ?_, ?_⟩
      · simp (disch := omega) only [sn_followOn_b2, wr_id, if_pos, chk_t, gt, bd_some, lt_eq, em]
      · intro a' h1
        try dsimp only
        rw [up_nk h1]; exact f' a' h1
      · intro j h1 h2
        try dsimp only
        by_cases ej : j = c
        · subst ej; rw [up_eq, if_pos (by omega)]
        · rw [up_ni ej, g j h1 h2]
          by_cases c5 : j < c
          · rw [if_pos c5, if_pos (by omega)]
          · rw [if_neg c5, if_neg (by omega)]
    · refine ⟨(c + 1, m), ?_, rfl, f', ?_⟩
      · simp (disch := omega) only [sn_followOn_b2, wr_id, if_pos, if_neg, chk_t, gt, bd_some]
      · intro j h1 h2
        try dsimp only
        rw [g j h1 h2]
        by_cases ej : j = c
        · subst ej; rw [if_neg (by omega), if_pos (by omega)]
          unfold fadT; rw [if_neg eg]
        · by_cases c5 : j < c
          · rw [if_pos c5, if_pos (by omega)]
          · rw [if_neg c5, if_neg (by omega)]) (fun s hI => by
    obtain ⟨c, m⟩ := s
    obtain ⟨e, f', g⟩ := hI
    dsimp only at e f' g
    subst e
    refine ⟨m, by simp (disch := omega) only [sn_followOn_b2, wr_id, if_neg], f', ?_⟩
    intro j h1 h2
    rw [g j h1 h2, if_pos h2])
  have fr : ∀ a, a ≠ o + 1 → g3 a = g1 a := fun a ha => by rw [f3 a ha, f2 a ha]
  refine ⟨g3, ?_, ⟨?_, ?_, ?_, ?_, ?_, ?_⟩, ?_⟩
  · unfold sn_followOn
    rw [e1, bd_some, e2, bd_some, e3]; rfl
  · rw [fr o (by omega)]; exact c0
  · rw [fr o (by omega)]; exact c1
  · rw [fr o (by omega)]; exact c2
  · intro i a b
    try dsimp only
    rw [r3 i a b]
    show _ = if 0 ≤ i ∧ i < 30 then fadT f (eatT S i) else 0
    rw [if_pos ⟨a, b⟩]
  · rw [fr (o + 2) (by omega)]; exact cR
  · rw [fr (o + 3) (by omega)]; exact cH
  · intro a ha
    try dsimp only
    rw [fr a (by omega), f1 a ha]
