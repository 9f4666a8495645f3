/-! Layer 2: spoons, the model, and all calls -/
/-- the model's tastes are those told -/
def TT (h t : Hp) : Prop := t 174 0 = h 9 1 ∧ t 174 4 = h 9 5 ∧ ∀ i, 0 ≤ i → i < 5 * h 9 5 → t 178 i = bT h i
theorem TT_fr {h t u : Hp} (hT : TT h t) (h1 : u 174 = t 174) (h2 : u 178 = t 178) : TT h u := by
  unfold TT
  rw [h1, h2]; exact hT
/-- tastes as told are laid -/
theorem m_told {h t : Hp} (hM : Mf h t) {B : Int × Hp → Option ((Int × Hp) ⊕ Hp)} (hB : ∀ c m, 0 ≤ c → c < 30 → B (c, m) = some (.inl (c + 1, up m 178 c (m 175 c)))) (hE : ∀ m, B (30, m) = some (.inr m)) : ∃ u, iter FU B (0, t) = some u ∧ (∀ a, a ≠ 178 → u a = t a) ∧ ∀ i, 0 ≤ i → i < 30 → u 178 i = t 175 i := by
  refine lp (fun i s => s.1 = i ∧ (∀ a, a ≠ 178 → s.2 a = t a) ∧ ∀ j, 0 ≤ j → j < i → s.2 178 j = t 175 j) 30 (by omega) (by omega) ⟨rfl, fun _ _ => rfl, fun j a b => by omega⟩ (fun i s a b hi => ?_) (fun s hi => ?_)
  · obtain ⟨c, m⟩ := s
    obtain ⟨q1, q2, q3⟩ := hi
    dsimp only at q1 q2 q3
    subst q1
    refine ⟨_, hB c m a b, rfl, fun a' h1 => ?_, fun j h1 h2 => ?_⟩
    · dsimp only; rw [up_nk h1]; exact q2 a' h1
    · dsimp only
      by_cases e : j = c
      · rw [e, up_eq, q2 175 (by omega)]
      · rw [up_ni e]; exact q3 j h1 (by omega)
  · obtain ⟨c, m⟩ := s
    obtain ⟨q1, q2, q3⟩ := hi
    dsimp only at q1 q2 q3
    subst q1
    exact ⟨m, hE m, q2, q3⟩
theorem m_TT {h t u : Hp} (hI : INV h) (hM : Mf h t) (h1 : ∀ a, a ≠ 178 → u a = t a) (h2 : ∀ i, 0 ≤ i → i < 30 → u 178 i = t 175 i) : TT h u ∧ Mf h u := by
  have lP := (INV_l hI).2.2.2.2.2.1
  have nT := (Mf_L0 hM).2.2.2.2.2.2.2.1
  rw [hM.2 9 (by omega) (by omega), hM.2 10 (by omega) (by omega)] at nT
  refine ⟨⟨by rw [h1 174 (by omega)]; exact (Mf_n hM).1, by rw [h1 174 (by omega)]; exact (Mf_n hM).2.2.2.2.1, fun i a b => ?_⟩, Mf_scr hM (fun a ha => h1 a (by omega))⟩
  rw [h2 i a (by omega), nT i a b, bT_eq (by omega)]
theorem m_isSoT {h t : Hp} (hI : INV h) (hT : TT h t) {k : Nat} (hk : k < 4) {a1 : Int} (e1 : (k : Int) = a1) (w1 : wr a1 = a1) (hS : Slo h k) (he : h (55 + 2 * k) 2 % 2 = 0) (hg : ∀ j, 0 ≤ j → j < h (55 + 2 * k) 2 / 2 → gdS h k j = true) (t9 : t 169 = h 169) (t0 : t 170 = h 170) {v : Int} (hv : 0 ≤ v ∧ v < ishl 1 (h 9 1)) : md_isSo t a1 v = some (if fit h k v = true then 1 else 0) := by
  obtain ⟨s1, s2, s3, s4⟩ := hS
  rw [e1] at s3 s4
  obtain ⟨r, e, q⟩ := lp_ex (body := md_isSo_b1 t a1 v) (s0 := 0) (Q := fun r => (r = .inl () ∧ fit h k v = true) ∨ (r = .inr 0 ∧ fit h k v = false)) (fun i s => s = 2 * i ∧ ftI h k v i = true) (h (55 + 2 * k) 2 / 2) (by omega) (by omega) ⟨by omega, rfl⟩ (fun i s a b hi => by
    obtain ⟨q1, q2⟩ := hi
    subst q1
    have x1 := s4 (2 * i) (by omega) (by omega)
    have x2 := s4 (2 * i + 1) (by omega) (by omega)
    rw [← Int.add_assoc] at x2
    have gd := of_decide_eq_true (hg i a b)
    have el := m_likedV hI gd.1 hv hT.1 hT.2.2
    have ai := an_in h (h (55 + 2 * k + 1) (2 * i)) v
    have eb : md_isSo_b1 t a1 v (2 * i) = if an h (h (55 + 2 * k + 1) (2 * i)) v = h (55 + 2 * k + 1) (2 * i + 1) then some (.inl (2 * i + 2)) else some (.inr (.inr 0)) := by
      unfold md_isSo_b1
      rw [w1, chk_t (by omega), t9, t0, s3, w32 (show -1000000 ≤ 2 * i ∧ 2 * i ≤ 1000000 by omega), w32 (show -1000000 ≤ h (55 + 2 * k) 2 ∧ h (55 + 2 * k) 2 ≤ 1000000 by omega), if_pos (by omega), w32 (show -1000000 ≤ 60 * a1 + 2 * i ∧ 60 * a1 + 2 * i ≤ 1000000 by omega), chk_t (by omega), x1.1, el, bd_some, w32 (show -1000000 ≤ 60 * a1 + 2 * i + 1 ∧ 60 * a1 + 2 * i + 1 ≤ 1000000 by omega), chk_t (by omega), x2.1, x2.2, w32 (show -1000000 ≤ an h (h (55 + 2 * k + 1) (2 * i)) v ∧ an h (h (55 + 2 * k + 1) (2 * i)) v ≤ 1000000 by omega), wl_id (show -9223372036854775808 ≤ an h (h (55 + 2 * k + 1) (2 * i)) v ∧ an h (h (55 + 2 * k + 1) (2 * i)) v < 9223372036854775808 by omega)]
    rw [eb]
    by_cases y : an h (h (55 + 2 * k + 1) (2 * i)) v = h (55 + 2 * k + 1) (2 * i + 1)
    · rw [if_pos y]
      refine Or.inl ⟨_, rfl, by omega, ?_⟩
      rw [ftI_succ h k v a, q2, decide_eq_true y]; rfl
    · rw [if_neg y]
      exact Or.inr ⟨_, rfl, Or.inr ⟨rfl, ft_false ⟨a, b⟩ y⟩⟩) (fun s hi => by
    obtain ⟨q1, q2⟩ := hi
    subst q1
    refine ⟨.inl (), ?_, Or.inl ⟨rfl, q2⟩⟩
    unfold md_isSo_b1
    rw [w1, chk_t (by omega), t9, s3, w32 (show -1000000 ≤ 2 * (h (55 + 2 * k) 2 / 2) ∧ 2 * (h (55 + 2 * k) 2 / 2) ≤ 1000000 by omega), w32 (show -1000000 ≤ h (55 + 2 * k) 2 ∧ h (55 + 2 * k) 2 ≤ 1000000 by omega), if_neg (by omega)])
  unfold md_isSo
  rw [e, bd_some]
  rcases q with ⟨z1, z2⟩ | ⟨z1, z2⟩
  · rw [z1, if_pos z2]
  · rw [z1, if_neg (by rw [z2]; simp)]
def alN (h : Hp) (k : Nat) : Nat → Int
  | 0 => ishl 1 (h 9 1) - 1
  | n + 1 => if fit h k (n : Int) = true then iand (alN h k n) (n : Int) else alN h k n
def alI (h : Hp) (k : Nat) (i : Int) : Int := alN h k i.toNat
theorem alI_succ (h : Hp) (k : Nat) {i : Int} (hi : 0 ≤ i) : alI h k (i + 1) = if fit h k i = true then iand (alI h k i) i else alI h k i := by
  unfold alI
  have e : (i + 1).toNat = i.toNat + 1 := by omega
  have e2 : ((i.toNat : Nat) : Int) = i := by omega
  rw [e, alN, e2]
def ayN (h : Hp) (k : Nat) : Nat → Int
  | 0 => 0
  | n + 1 => if fit h k (n : Int) = true then ior (ayN h k n) (n : Int) else ayN h k n
def ayI (h : Hp) (k : Nat) (i : Int) : Int := ayN h k i.toNat
theorem ayI_succ (h : Hp) (k : Nat) {i : Int} (hi : 0 ≤ i) : ayI h k (i + 1) = if fit h k i = true then ior (ayI h k i) i else ayI h k i := by
  unfold ayI
  have e : (i + 1).toNat = i.toNat + 1 := by omega
  have e2 : ((i.toNat : Nat) : Int) = i := by omega
  rw [e, ayN, e2]
theorem ctF_succ (h : Hp) (k : Nat) {v : Int} (a : 0 ≤ v) : ctF h k (v + 1) = ctF h k v + if fit h k v = true then 1 else 0 := sm_succ a _
theorem ctF_in (h : Hp) (k : Nat) {n : Int} (hn : 0 ≤ n ∧ n ≤ 32) : 0 ≤ ctF h k n ∧ ctF h k n ≤ 32 := by
  have := sm_le hn.1 (f := fun v => if fit h k v = true then 1 else 0) (m := 0) (M := 1) (fun v _ _ => by split <;> omega)
  unfold ctF; omega
section HEARD
variable {h : Hp} {k : Nat}
theorem c_inAll {m : Hp} (hI : INV h) (hT : Tbl h k m) : sp_kindsInAll m = some (alI h k (ishl 1 (h 9 1))) := by
  have lK := (INV_l hI).2.1
  have pw := pow_in (h 9 1) lK.1 (by omega)
  have wpw : wr (ishl 1 (h 9 1)) = ishl 1 (h 9 1) := wr_ishl _ _
  obtain ⟨t4, t6, t33, t0, t34⟩ := hT
  unfold sp_kindsInAll
  have hit := lp_fn (body := sp_kindsInAll_b1 m) (s0 := (m 32 6 - 1, 0)) (fun i => (alI h k i, i)) (ishl 1 (h 9 1)) (alI h k (ishl 1 (h 9 1))) (by omega) (by omega) (by rw [t6]; rfl) (fun i a b => by
    rw [alI_succ h k a]
    simp only [sp_kindsInAll_b1, t6]
    rw [wpw, w32 (show -1000000 ≤ i ∧ i ≤ 1000000 by omega), if_pos b, chk_t (by omega), t34 i a b]
    by_cases y : fit h k i = true
    · rw [if_pos y, if_pos y, if_neg (by decide)]
    · rw [if_neg y, if_neg y, if_pos (show wr 0 = 0 from rfl)]) (by
    simp only [sp_kindsInAll_b1, t6]
    rw [if_neg (Int.lt_irrefl _)])
  rw [hit]; rfl
theorem c_inNone {m : Hp} (hI : INV h) (hT : Tbl h k m) : sp_kindsInNone m = some (iand (ishl 1 (h 9 1) - 1) (ixor (ayI h k (ishl 1 (h 9 1))) (-1))) := by
  have lK := (INV_l hI).2.1
  have pw := pow_in (h 9 1) lK.1 (by omega)
  have wpw : wr (ishl 1 (h 9 1)) = ishl 1 (h 9 1) := wr_ishl _ _
  obtain ⟨t4, t6, t33, t0, t34⟩ := hT
  unfold sp_kindsInNone
  have hit := lp_fn (body := sp_kindsInNone_b1 m) (s0 := (0, 0)) (fun i => (ayI h k i, i)) (ishl 1 (h 9 1)) (ayI h k (ishl 1 (h 9 1))) (by omega) (by omega) rfl (fun i a b => by
    rw [ayI_succ h k a]
    simp only [sp_kindsInNone_b1, t6]
    rw [wpw, w32 (show -1000000 ≤ i ∧ i ≤ 1000000 by omega), if_pos b, chk_t (by omega), t34 i a b]
    by_cases y : fit h k i = true
    · rw [if_pos y, if_pos y, if_neg (by decide)]
    · rw [if_neg y, if_neg y, if_pos (show wr 0 = 0 from rfl)]) (by
    simp only [sp_kindsInNone_b1, t6]
    rw [if_neg (Int.lt_irrefl _)])
  rw [hit, bd_some, t6]
/-- how the answers of one are spread: the most, and how many each -/
def wbN (h : Hp) (k : Nat) (p : Int) : Nat → Int × (Int → Int)
  | 0 => (0, fun _ => 0)
  | n + 1 => if fit h k (n : Int) = true then ((if (wbN h k p n).1 < (wbN h k p n).2 (an h p (n : Int)) + 1 then (wbN h k p n).2 (an h p (n : Int)) + 1 else (wbN h k p n).1), fun j => if j = an h p (n : Int) then (wbN h k p n).2 j + 1 else (wbN h k p n).2 j) else wbN h k p n
def wbI (h : Hp) (k : Nat) (p i : Int) : Int × (Int → Int) := wbN h k p i.toNat
theorem wbI_succ (h : Hp) (k : Nat) (p : Int) {i : Int} (hi : 0 ≤ i) : wbI h k p (i + 1) = if fit h k i = true then ((if (wbI h k p i).1 < (wbI h k p i).2 (an h p i) + 1 then (wbI h k p i).2 (an h p i) + 1 else (wbI h k p i).1), fun j => if j = an h p i then (wbI h k p i).2 j + 1 else (wbI h k p i).2 j) else wbI h k p i := by
  unfold wbI
  have e : (i + 1).toNat = i.toNat + 1 := by omega
  have e2 : ((i.toNat : Nat) : Int) = i := by omega
  rw [e, wbN, e2]
theorem wbI_in (h : Hp) (k : Nat) (p : Int) {n : Int} (hn : 0 ≤ n) : (0 ≤ (wbI h k p n).1 ∧ (wbI h k p n).1 ≤ n) ∧ ∀ j, 0 ≤ (wbI h k p n).2 j ∧ (wbI h k p n).2 j ≤ n :=
  ind_to (P := fun i => (0 ≤ (wbI h k p i).1 ∧ (wbI h k p i).1 ≤ i) ∧ ∀ j, 0 ≤ (wbI h k p i).2 j ∧ (wbI h k p i).2 j ≤ i) (n := n) ⟨by show 0 ≤ (0 : Int) ∧ (0 : Int) ≤ 0; omega, fun j => by show 0 ≤ (0 : Int) ∧ (0 : Int) ≤ 0; omega⟩ (fun i a b d => by
    rw [wbI_succ h k p a]
    have d2 := d.2 (an h p i)
    split
    · refine ⟨?_, fun j => ?_⟩
      · dsimp only; split <;> omega
      · have := d.2 j
        dsimp only; split <;> omega
    · exact ⟨by omega, fun j => by have := d.2 j; omega⟩) n hn (by omega)
def woI (h : Hp) (k : Nat) (p : Int) : Int := (wbI h k p (ishl 1 (h 9 1))).1
theorem c_fill5 (m : Hp) : ∃ g, jd_fill_53178 m 35 6 0 = some g ∧ (∀ a, a ≠ 35 → g a = m a) ∧ ∀ j : Int, 0 ≤ j → j < 6 → g 35 j = 0 := by
  obtain ⟨g, e, r⟩ := lp (body := jd_fill_53178_b1 35 6 0) (s0 := (0, m)) (Q := fun g => (∀ b, b ≠ 35 → g b = m b) ∧ ∀ j : Int, 0 ≤ j → j < 6 → g 35 j = 0) (fun i s => s.1 = i ∧ (∀ b, b ≠ 35 → s.2 b = m b) ∧ ∀ j, 0 ≤ j → j < i → s.2 35 j = 0) 6 (by omega) (by omega) ⟨rfl, fun _ _ => rfl, fun j a b => by omega⟩ (fun i s a' b hi => by
    obtain ⟨c, g⟩ := s
    obtain ⟨q1, q2, q3⟩ := hi
    dsimp only at q1 q2 q3
    subst q1
    refine ⟨(c + 1, up g 35 c 0), ?_, rfl, ?_, ?_⟩
    · simp (disch := omega) only [jd_fill_53178_b1, bd_some, lt_eq, bI_wr, bI_t, bI_f, if_neg, if_pos, if_true, if_false, wr_id, chk_t]
    · intro b' h1
      try dsimp only
      rw [up_nk h1]; exact q2 b' h1
    · intro j h1 h2
      try dsimp only
      by_cases ej : j = c
      · rw [ej, up_eq]
      · rw [up_ni ej]; exact q3 j h1 (by omega)) (fun s hi => by
    obtain ⟨c, g⟩ := s
    obtain ⟨q1, q2, q3⟩ := hi
    dsimp only at q1 q2 q3
    subst q1
    exact ⟨g, by simp (disch := omega) only [jd_fill_53178_b1, bd_some, lt_eq, bI_wr, bI_t, bI_f, if_neg, if_pos, if_true, if_false, wr_id, chk_t], q2, q3⟩)
  exact ⟨g, by unfold jd_fill_53178; rw [e]; rfl, r⟩
theorem Tbl_fr {m g : Hp} (hT : Tbl h k m) (hf : ∀ a, a ≠ 35 → g a = m a) : Tbl h k g := by
  unfold Tbl
  rw [hf 32 (by omega), hf 33 (by omega), hf 34 (by omega)]; exact hT
theorem Mf_35 {m g : Hp} (hM : Mf h m) (hf : ∀ a, a ≠ 35 → g a = m a) : Mf h g :=
  Mf_fx hM ⟨fun a ha => hf a (by unfold scr at ha; omega), by rw [hf 167 (by omega)], by rw [hf 167 (by omega)], by rw [hf 167 (by omega)]⟩
theorem c_worst {m : Hp} (hI : INV h) (hT : Tbl h k m) {p : Int} (hp : 0 ≤ p ∧ p < h 9 5) : ∃ m', sp_worstBehind m p = some (woI h k p, m') ∧ ∀ a, a ≠ 35 → m' a = m a := by
  have lP := (INV_l hI).2.2.2.2.2.1
  have lK := (INV_l hI).2.1
  have pw := pow_in (h 9 1) lK.1 (by omega)
  have wpw : wr (ishl 1 (h 9 1)) = ishl 1 (h 9 1) := wr_ishl _ _
  obtain ⟨g, eg, g1, g2⟩ := c_fill5 m
  obtain ⟨t4, t6, t33, t0, t34⟩ := hT
  obtain ⟨r, e, r1, r2⟩ := lp (body := sp_worstBehind_b1 p) (s0 := (0, 0, g)) (Q := fun r => r.1 = woI h k p ∧ ∀ a, a ≠ 35 → r.2 a = m a) (fun i s => s.1 = (wbI h k p i).1 ∧ s.2.1 = i ∧ (∀ a, a ≠ 35 → s.2.2 a = m a) ∧ ∀ j, -1 ≤ j → j < 5 → s.2.2 35 (j + 1) = (wbI h k p i).2 j) (ishl 1 (h 9 1)) (by omega) (by omega) ⟨rfl, rfl, g1, fun j a b => by dsimp only; rw [g2 (j + 1) (by omega) (by omega)]; rfl⟩ (fun i s a b hi => by
    obtain ⟨w, v, q⟩ := s
    obtain ⟨q1, q2, q3, q4⟩ := hi
    dsimp only at q1 q2 q3 q4
    subst q2
    have q6 : q 32 6 = ishl 1 (h 9 1) := by rw [q3 32 (by omega)]; exact t6
    have q34 : q 34 v = if fit h k v = true then 1 else 0 := by rw [q3 34 (by omega)]; exact t34 v a b
    have q33 : q 33 (p * 32 + v) = an h p v := by rw [q3 33 (by omega)]; exact t33 p v hp.1 hp.2 a b
    have ai := an_in h p v
    have wi := wbI_in h k p a
    have wj := wi.2 (an h p v)
    rw [← q1] at wi
    have e35 := q4 (an h p v) ai.1 ai.2
    have ws := wbI_succ h k p a
    rw [← q1] at ws
    have eb : sp_worstBehind_b1 p (w, v, q) = Option.bind (if wr (if fit h k v = true then 1 else 0) = 0 then some (w, q) else some ((if w < (wbI h k p v).2 (an h p v) + 1 then (wbI h k p v).2 (an h p v) + 1 else w), up q 35 (an h p v + 1) ((wbI h k p v).2 (an h p v) + 1))) (fun s11 : Int × Hp => some (.inl (s11.1, v + 1, s11.2))) := by
      simp only [sp_worstBehind_b1, q6]
      rw [wpw, w32 (show -1000000 ≤ v ∧ v ≤ 1000000 by omega), if_pos b, chk_t (by omega), q34, w32 (show -1000000 ≤ p * 32 + v ∧ p * 32 + v ≤ 1000000 by omega), chk_t (by omega)]
      simp only [q33]
      rw [w32 (show -1000000 ≤ an h p v + 1 ∧ an h p v + 1 ≤ 1000000 by omega), chk_t (by omega), chk_t (by omega), lt_eq, chk_t (by omega), e35, up_eq]
      unfold imax
      rw [w32 (show -1000000 ≤ w ∧ w ≤ 1000000 by omega), w32 (show -1000000 ≤ (wbI h k p v).2 (an h p v) + 1 ∧ (wbI h k p v).2 (an h p v) + 1 ≤ 1000000 by omega)]
    rw [eb, ws]
    by_cases y : fit h k v = true
    · rw [if_pos y, if_pos y, if_neg (by decide), bd_some]
      refine ⟨_, rfl, rfl, rfl, fun a' h1 => ?_, fun j h1 h2 => ?_⟩
      · dsimp only; rw [up_nk h1]; exact q3 a' h1
      · dsimp only
        by_cases z : j = an h p v
        · rw [z, up_eq, if_pos rfl]
        · rw [up_ni (by omega), if_neg z]; exact q4 j h1 h2
    · rw [if_neg y, if_neg y, if_pos (show wr 0 = 0 from rfl), bd_some]
      exact ⟨_, rfl, q1, rfl, q3, q4⟩) (fun s hi => by
    obtain ⟨w, v, q⟩ := s
    obtain ⟨q1, q2, q3, q4⟩ := hi
    dsimp only at q1 q2 q3 q4
    subst q2
    have q6 : q 32 6 = ishl 1 (h 9 1) := by rw [q3 32 (by omega)]; exact t6
    refine ⟨(w, q), ?_, q1, q3⟩
    simp only [sp_worstBehind_b1, q6]
    rw [if_neg (Int.lt_irrefl _)])
  obtain ⟨w, q⟩ := r
  dsimp only at r1 r2
  refine ⟨q, ?_, r2⟩
  unfold sp_worstBehind
  rw [eg, bd_some, e, bd_some, r1]
def baN (h : Hp) (k : Nat) : Nat → Int × Int
  | 0 => (-1, ctF h k (ishl 1 (h 9 1)))
  | n + 1 => if woI h k (n : Int) < (baN h k n).2 then ((n : Int), woI h k (n : Int)) else baN h k n
def baI (h : Hp) (k : Nat) (i : Int) : Int × Int := baN h k i.toNat
theorem baI_succ (h : Hp) (k : Nat) {i : Int} (hi : 0 ≤ i) : baI h k (i + 1) = if woI h k i < (baI h k i).2 then (i, woI h k i) else baI h k i := by
  unfold baI
  have e : (i + 1).toNat = i.toNat + 1 := by omega
  have e2 : ((i.toNat : Nat) : Int) = i := by omega
  rw [e, baN, e2]
theorem woI_in (hI : INV h) (p : Int) : 0 ≤ woI h k p ∧ woI h k p ≤ 32 := by
  have lK := (INV_l hI).2.1
  have pw := pow_in (h 9 1) lK.1 (by omega)
  have := wbI_in h k p (n := ishl 1 (h 9 1)) (by omega)
  unfold woI
  omega
theorem baI_in (hI : INV h) {n : Int} (hn : 0 ≤ n) : (0 ≤ (baI h k n).2 ∧ (baI h k n).2 ≤ 32) ∧ (((baI h k n).1 = -1 ∧ (baI h k n).2 = ctF h k (ishl 1 (h 9 1))) ∨ (0 ≤ (baI h k n).1 ∧ (baI h k n).1 < n ∧ (baI h k n).2 = woI h k (baI h k n).1)) := by
  have lK := (INV_l hI).2.1
  have pw := pow_in (h 9 1) lK.1 (by omega)
  exact ind_to (P := fun i => (0 ≤ (baI h k i).2 ∧ (baI h k i).2 ≤ 32) ∧ (((baI h k i).1 = -1 ∧ (baI h k i).2 = ctF h k (ishl 1 (h 9 1))) ∨ (0 ≤ (baI h k i).1 ∧ (baI h k i).1 < i ∧ (baI h k i).2 = woI h k (baI h k i).1))) (n := n) ⟨ctF_in h k (by omega), Or.inl ⟨rfl, rfl⟩⟩ (fun i a b d => by
    have w := woI_in (k := k) hI i
    rw [baI_succ h k a]
    split
    · exact ⟨w, Or.inr ⟨a, by dsimp only; omega, rfl⟩⟩
    · refine ⟨d.1, ?_⟩
      rcases d.2 with q | q
      · exact Or.inl q
      · exact Or.inr ⟨q.1, by omega, q.2.2⟩) n hn (by omega)
theorem c_best {m : Hp} (hI : INV h) (hT : Tbl h k m) : ∃ m', sp_bestAsked m = some ((baI h k (h 9 5)).1, m') ∧ ∀ a, a ≠ 35 → m' a = m a := by
  have lP := (INV_l hI).2.2.2.2.2.1
  obtain ⟨r, e, r1, r2⟩ := lp (body := sp_bestAsked_b1) (s0 := (-1, m 32 0, 0, m)) (Q := fun r => r.1 = (baI h k (h 9 5)).1 ∧ ∀ a, a ≠ 35 → r.2 a = m a) (fun i s => s.1 = (baI h k i).1 ∧ s.2.1 = (baI h k i).2 ∧ s.2.2.1 = i ∧ ∀ a, a ≠ 35 → s.2.2.2 a = m a) (h 9 5) lP.1 (by omega) ⟨rfl, hT.2.2.2.1, rfl, fun _ _ => rfl⟩ (fun i s a b hi => by
    obtain ⟨f, w, p, q⟩ := s
    obtain ⟨q1, q2, q3, q5⟩ := hi
    dsimp only at q1 q2 q3 q5
    subst q3
    have q4 : Tbl h k q := Tbl_fr hT q5
    have bi := baI_in (k := k) hI a
    rw [← q2] at bi
    have wi := woI_in (k := k) hI p
    obtain ⟨q', e1, f1⟩ := c_worst hI q4 (p := p) ⟨a, b⟩
    refine ⟨((baI h k (p + 1)).1, (baI h k (p + 1)).2, p + 1, q'), ?_, rfl, rfl, rfl, fun a' h1 => by dsimp only; rw [f1 a' h1]; exact q5 a' h1⟩
    rw [baI_succ h k a, ← q2]
    simp only [sp_bestAsked_b1, q4.1]
    rw [w32 (show -1000000 ≤ p ∧ p ≤ 1000000 by omega), w32 (show -1000000 ≤ h 9 5 ∧ h 9 5 ≤ 1000000 by omega), if_pos b, e1, bd_some]
    dsimp only
    rw [w32 (show -1000000 ≤ woI h k p ∧ woI h k p ≤ 1000000 by omega), w32 (show -1000000 ≤ w ∧ w ≤ 1000000 by omega)]
    by_cases y : woI h k p < w
    · rw [if_pos y, if_pos y, bd_some]
    · rw [if_neg y, if_neg y, bd_some, q1, q2]) (fun s hi => by
    obtain ⟨f, w, p, q⟩ := s
    obtain ⟨q1, q2, q3, q5⟩ := hi
    dsimp only at q1 q2 q3 q5
    subst q3
    have q4 : Tbl h k q := Tbl_fr hT q5
    refine ⟨(f, q), ?_, q1, q5⟩
    simp only [sp_bestAsked_b1, q4.1]
    rw [if_neg (Int.lt_irrefl _)])
  obtain ⟨f, q⟩ := r
  dsimp only at r1 r2
  refine ⟨q, ?_, r2⟩
  unfold sp_bestAsked
  rw [e, bd_some, r1]
/-! the model -/
def Kt (h t u : Hp) : Prop := (∀ a, a ≠ 167 → a ≠ 185 → u a = t a) ∧ u 167 6 = t 167 6 ∧ u 167 14 = t 167 14 ∧ u 167 15 = t 167 15
theorem Kt_M {t u : Hp} (hM : Mf h t) (hk : Kt h t u) : Mf h u := Mf_fx hM ⟨fun a ha => hk.1 a (by unfold scr at ha; omega) (by unfold scr at ha; omega), hk.2⟩
theorem m_laySp {t : Hp} (hI : INV h) (hM : Mf h t) (hTT : TT h t) (hk : k < 4) {a1 : Int} (e1 : (k : Int) = a1) (w1 : wr a1 = a1) (hS : Slo h k) (he : h (55 + 2 * k) 2 % 2 = 0) (hg : ∀ j, 0 ≤ j → j < h (55 + 2 * k) 2 / 2 → gdS h k j = true) (t9 : t 169 = h 169) (t0 : t 170 = h 170) : ∃ u, md_laysSpoons t a1 = some u ∧ (∀ a, a ≠ 167 → u a = t a) ∧ (∀ j, j < 34 → u 167 j = t 167 j) ∧ u 167 34 = ctF h k (ishl 1 (h 9 1)) ∧ u 167 35 = alI h k (ishl 1 (h 9 1)) ∧ u 167 36 = ayI h k (ishl 1 (h 9 1)) := by
  have lK := (INV_l hI).2.1
  have pw := pow_in (h 9 1) lK.1 (by omega)
  have wpw : wr (ishl 1 (h 9 1)) = ishl 1 (h 9 1) := wr_ishl _ _
  obtain ⟨G, eG⟩ : ∃ G, G = up (up (up t 167 34 0) 167 35 (ishl 1 (h 9 1) - 1)) 167 36 0 := ⟨_, rfl⟩
  have gf : ∀ a, a ≠ 167 → G a = t a := fun a ha => by rw [eG, up_nk ha, up_nk ha, up_nk ha]
  have gj : ∀ j, j < 34 → G 167 j = t 167 j := fun j hj => by rw [eG, up_ni (by omega), up_ni (by omega), up_ni (by omega)]
  obtain ⟨u, e, r⟩ := lp (body := md_laysSpoons_b1 a1) (s0 := (0, G)) (Q := fun u => (∀ a, a ≠ 167 → u a = t a) ∧ (∀ j, j < 34 → u 167 j = t 167 j) ∧ u 167 34 = ctF h k (ishl 1 (h 9 1)) ∧ u 167 35 = alI h k (ishl 1 (h 9 1)) ∧ u 167 36 = ayI h k (ishl 1 (h 9 1))) (fun i s => s.1 = i ∧ (∀ a, a ≠ 167 → s.2 a = t a) ∧ (∀ j, j < 34 → s.2 167 j = t 167 j) ∧ s.2 167 34 = ctF h k i ∧ s.2 167 35 = alI h k i ∧ s.2 167 36 = ayI h k i) (ishl 1 (h 9 1)) (by omega) (by omega) ⟨rfl, gf, gj, by dsimp only; rw [eG, up_ni (by omega), up_ni (by omega), up_eq]; rfl, by dsimp only; rw [eG, up_ni (by omega), up_eq]; rfl, by dsimp only; rw [eG, up_eq]; rfl⟩ (fun i s a b hi => by
    obtain ⟨v, q⟩ := s
    obtain ⟨q1, q2, q3, q4, q5, q6⟩ := hi
    dsimp only at q1 q2 q3 q4 q5 q6
    subst q1
    have es := m_isSoT (t := q) hI (TT_fr hTT (q2 174 (by omega)) (q2 178 (by omega))) hk e1 w1 hS he hg (by rw [q2 169 (by omega)]; exact t9) (by rw [q2 170 (by omega)]; exact t0) (v := v) ⟨a, b⟩
    have k0 : q 174 0 = h 9 1 := by rw [q2 174 (by omega)]; exact hTT.1
    have eb : md_laysSpoons_b1 a1 (v, q) = Option.bind (if wr (if fit h k v = true then 1 else 0) = 0 then some q else some (up (up (up q 167 34 (ctF h k v + 1)) 167 35 (iand (alI h k v) v)) 167 36 (ior (ayI h k v) v))) (fun s13 : Hp => some (.inl (v + 1, s13))) := by
      simp only [md_laysSpoons_b1, md_kindsAll, k0, bd_some, es]
      rw [wpw, w32 (show -1000000 ≤ v ∧ v ≤ 1000000 by omega), if_pos b, lt_eq, lt_eq, lt_eq, q4]
      rw [show up q 167 34 (ctF h k v + 1) 167 35 = alI h k v by rw [up_ni (by omega)]; exact q5]
      rw [show up (up q 167 34 (ctF h k v + 1)) 167 35 (iand (alI h k v) v) 167 36 = ayI h k v by rw [up_ni (by omega), up_ni (by omega)]; exact q6]
    rw [eb, ctF_succ h k a, alI_succ h k a, ayI_succ h k a]
    by_cases y : fit h k v = true
    · rw [if_pos y, if_pos y, if_pos y, if_neg (by decide), bd_some]
      refine ⟨_, rfl, rfl, fun a' h1 => ?_, fun j h1 => ?_, ?_, ?_, ?_⟩
      · dsimp only; rw [up_nk h1, up_nk h1, up_nk h1]; exact q2 a' h1
      · dsimp only; rw [up_ni (by omega), up_ni (by omega), up_ni (by omega)]; exact q3 j h1
      · dsimp only; rw [up_ni (by omega), up_ni (by omega), up_eq]
      · dsimp only; rw [up_ni (by omega), up_eq]
      · dsimp only; rw [up_eq]
    · rw [if_neg y, if_neg y, if_neg y, if_pos (show wr 0 = 0 from rfl), bd_some]
      exact ⟨_, rfl, rfl, q2, q3, by dsimp only; rw [q4, Int.add_zero], q5, q6⟩) (fun s hi => by
    obtain ⟨v, q⟩ := s
    obtain ⟨q1, q2, q3, q4, q5, q6⟩ := hi
    dsimp only at q1 q2 q3 q4 q5 q6
    subst q1
    have k0 : q 174 0 = h 9 1 := by rw [q2 174 (by omega)]; exact hTT.1
    refine ⟨q, ?_, q2, q3, q4, q5, q6⟩
    simp only [md_laysSpoons_b1, md_kindsAll, k0, bd_some]
    rw [if_neg (Int.lt_irrefl _)])
  refine ⟨u, ?_, r⟩
  have k0 : up t 167 34 0 174 0 = h 9 1 := by rw [up_nk (by omega)]; exact hTT.1
  unfold md_laysSpoons md_kindsAll
  rw [lt_eq, bd_some, k0, lt_eq, lt_eq, ← eG, e, bd_some]
theorem m_ask3 {t : Hp} (hI : INV h) (hTT : TT h t) (hk : k < 4) {a1 : Int} (e1 : (k : Int) = a1) (w1 : wr a1 = a1) (hS : Slo h k) (he : h (55 + 2 * k) 2 % 2 = 0) (hg : ∀ j, 0 ≤ j → j < h (55 + 2 * k) 2 / 2 → gdS h k j = true) (t9 : t 169 = h 169) (t0 : t 170 = h 170) {p : Int} (hp : 0 ≤ p ∧ p < h 9 5) (z : Int × Hp) (hz : z.1 = p) (t185 : ∀ j, 0 ≤ j → j < 6 → t 185 j = 0) : ∃ u, iter FU (md_laysAsk_b3 a1 z) (0, 0, t) = some (woI h k p, u) ∧ ∀ a, a ≠ 185 → u a = t a := by
  have lP := (INV_l hI).2.2.2.2.2.1
  have lK := (INV_l hI).2.1
  have pw := pow_in (h 9 1) lK.1 (by omega)
  have wpw : wr (ishl 1 (h 9 1)) = ishl 1 (h 9 1) := wr_ishl _ _
  obtain ⟨r, e, r1, r2⟩ := lp (body := md_laysAsk_b3 a1 z) (s0 := (0, 0, t)) (Q := fun r => r.1 = woI h k p ∧ ∀ a, a ≠ 185 → r.2 a = t a) (fun i s => s.1 = (wbI h k p i).1 ∧ s.2.1 = i ∧ (∀ a, a ≠ 185 → s.2.2 a = t a) ∧ ∀ j, -1 ≤ j → j < 5 → s.2.2 185 (1 + j) = (wbI h k p i).2 j) (ishl 1 (h 9 1)) (by omega) (by omega) ⟨rfl, rfl, fun _ _ => rfl, fun j a b => by dsimp only; rw [t185 (1 + j) (by omega) (by omega)]; rfl⟩ (fun i s a b hi => by
    obtain ⟨w, v, q⟩ := s
    obtain ⟨q1, q2, q3, q4⟩ := hi
    dsimp only at q1 q2 q3 q4
    subst q2
    have hTq : TT h q := TT_fr hTT (q3 174 (by omega)) (q3 178 (by omega))
    have es := m_isSoT (t := q) hI hTq hk e1 w1 hS he hg (by rw [q3 169 (by omega)]; exact t9) (by rw [q3 170 (by omega)]; exact t0) (v := v) ⟨a, b⟩
    have el := m_likedV hI hp (v := v) ⟨a, b⟩ hTq.1 hTq.2.2
    have ai := an_in h p v
    have wi := wbI_in h k p a
    have wj := wi.2 (an h p v)
    rw [← q1] at wi
    have e35 := q4 (an h p v) ai.1 ai.2
    have ws := wbI_succ h k p a
    rw [← q1] at ws
    have eb : md_laysAsk_b3 a1 z (w, v, q) = Option.bind (if wr (if fit h k v = true then 1 else 0) = 0 then some (w, q) else some ((if w < (wbI h k p v).2 (an h p v) + 1 then (wbI h k p v).2 (an h p v) + 1 else w), up q 185 (1 + an h p v) ((wbI h k p v).2 (an h p v) + 1))) (fun s11 : Int × Hp => some (.inl (s11.1, v + 1, s11.2))) := by
      simp only [md_laysAsk_b3, md_kindsAll, hTq.1, bd_some, es, hz, el]
      rw [wpw, w32 (show -1000000 ≤ v ∧ v ≤ 1000000 by omega), if_pos b, w32 (show -1000000 ≤ 1 + an h p v ∧ 1 + an h p v ≤ 1000000 by omega), chk_t (by omega), chk_t (by omega), lt_eq, chk_t (by omega), chk_t (by omega), e35, up_eq, w32 (show -1000000 ≤ w ∧ w ≤ 1000000 by omega), w32 (show -1000000 ≤ (wbI h k p v).2 (an h p v) + 1 ∧ (wbI h k p v).2 (an h p v) + 1 ≤ 1000000 by omega)]
      by_cases y : w < (wbI h k p v).2 (an h p v) + 1
      · rw [if_pos y, if_pos y, bd_some]
      · rw [if_neg y, if_neg y, bd_some]
    rw [eb, ws]
    by_cases y : fit h k v = true
    · rw [if_pos y, if_pos y, if_neg (by decide), bd_some]
      refine ⟨_, rfl, rfl, rfl, fun a' h1 => ?_, fun j h1 h2 => ?_⟩
      · dsimp only; rw [up_nk h1]; exact q3 a' h1
      · dsimp only
        by_cases z : j = an h p v
        · rw [z, up_eq, if_pos rfl]
        · rw [up_ni (by omega), if_neg z]; exact q4 j h1 h2
    · rw [if_neg y, if_neg y, if_pos (show wr 0 = 0 from rfl), bd_some]
      exact ⟨_, rfl, q1, rfl, q3, q4⟩) (fun s hi => by
    obtain ⟨w, v, q⟩ := s
    obtain ⟨q1, q2, q3, q4⟩ := hi
    dsimp only at q1 q2 q3 q4
    subst q2
    have k0 : q 174 0 = h 9 1 := by rw [q3 174 (by omega)]; exact hTT.1
    refine ⟨(w, q), ?_, q1, q3⟩
    simp only [md_laysAsk_b3, md_kindsAll, k0, bd_some]
    rw [if_neg (Int.lt_irrefl _)])
  obtain ⟨w, q⟩ := r
  dsimp only at r1 r2
  exact ⟨q, by rw [e, r1], r2⟩
theorem m_ask2 (u : Hp) : ∃ m, iter FU md_laysAsk_b2 (0, u) = some m ∧ (∀ a, a ≠ 185 → m a = u a) ∧ ∀ j, 0 ≤ j → j < 6 → m 185 j = 0 := m_lik1 u
theorem m_layAsk {t : Hp} (hI : INV h) (hM : Mf h t) (hTT : TT h t) (hk : k < 4) {a1 : Int} (e1 : (k : Int) = a1) (w1 : wr a1 = a1) (hS : Slo h k) (he : h (55 + 2 * k) 2 % 2 = 0) (hg : ∀ j, 0 ≤ j → j < h (55 + 2 * k) 2 / 2 → gdS h k j = true) (t9 : t 169 = h 169) (t0 : t 170 = h 170) : ∃ u, md_laysAsk t a1 = some u ∧ Mf h u ∧ u 167 37 = (baI h k (h 9 5)).1 ∧ u 167 38 = (baI h k (h 9 5)).2 := by
  have lP := (INV_l hI).2.2.2.2.2.1
  obtain ⟨s, es, s1, s2, s3, s4, s5⟩ := m_laySp hI hM hTT hk e1 w1 hS he hg t9 t0
  obtain ⟨G, eG⟩ : ∃ G, G = up (up s 167 37 (-1)) 167 38 (ctF h k (ishl 1 (h 9 1))) := ⟨_, rfl⟩
  have gf : ∀ a, a ≠ 167 → G a = t a := fun a ha => by rw [eG, up_nk ha, up_nk ha]; exact s1 a ha
  have gj : ∀ j, j < 34 → G 167 j = t 167 j := fun j hj => by rw [eG, up_ni (by omega), up_ni (by omega)]; exact s2 j hj
  obtain ⟨u, e, r1, r2, r3, r4⟩ := lp (body := md_laysAsk_b1 a1) (s0 := (0, G)) (Q := fun u => (∀ a, a ≠ 167 → a ≠ 185 → u a = t a) ∧ (∀ j, j < 34 → u 167 j = t 167 j) ∧ u 167 37 = (baI h k (h 9 5)).1 ∧ u 167 38 = (baI h k (h 9 5)).2) (fun i s => s.1 = i ∧ (∀ a, a ≠ 167 → a ≠ 185 → s.2 a = t a) ∧ (∀ j, j < 34 → s.2 167 j = t 167 j) ∧ s.2 167 37 = (baI h k i).1 ∧ s.2 167 38 = (baI h k i).2) (h 9 5) lP.1 (by omega) ⟨rfl, fun a x _ => gf a x, gj, by dsimp only; rw [eG, up_ni (by omega), up_eq]; rfl, by dsimp only; rw [eG, up_eq]; rfl⟩ (fun i s a b hi => by
    obtain ⟨p, q⟩ := s
    obtain ⟨q1, q2, q3, q4, q5⟩ := hi
    dsimp only at q1 q2 q3 q4 q5
    subst q1
    have bi := baI_in (k := k) hI a
    have wi := woI_in (k := k) hI p
    obtain ⟨g, x1, x2, x3⟩ := m_ask2 q
    have gt : ∀ a, a ≠ 167 → a ≠ 185 → g a = t a := fun a h1 h2 => by rw [x2 a h2]; exact q2 a h1 h2
    obtain ⟨g', y1, y2⟩ := m_ask3 (t := g) hI (TT_fr hTT (gt 174 (by omega) (by omega)) (gt 178 (by omega) (by omega))) hk e1 w1 hS he hg (by rw [gt 169 (by omega) (by omega)]; exact t9) (by rw [gt 170 (by omega) (by omega)]; exact t0) (p := p) ⟨a, b⟩ (p, q) rfl x3
    have g7 : g' 167 = q 167 := by rw [y2 167 (by omega), x2 167 (by omega)]
    have p4 : q 174 4 = h 9 5 := by rw [q2 174 (by omega) (by omega)]; exact hTT.2.1
    have eb : md_laysAsk_b1 a1 (p, q) = Option.bind (if (baI h k p).2 ≤ woI h k p then some g' else some (up (up g' 167 37 p) 167 38 (woI h k p))) (fun s30 : Hp => some (.inl (p + 1, s30))) := by
      simp only [md_laysAsk_b1, md_people, p4, bd_some, x1, y1, g7, q5]
      rw [w32 (show -1000000 ≤ p ∧ p ≤ 1000000 by omega), w32 (show -1000000 ≤ h 9 5 ∧ h 9 5 ≤ 1000000 by omega), if_pos b, w32 (show -1000000 ≤ (baI h k p).2 ∧ (baI h k p).2 ≤ 1000000 by omega), w32 (show -1000000 ≤ woI h k p ∧ woI h k p ≤ 1000000 by omega), lt_eq, lt_eq]
    rw [eb, baI_succ h k a]
    by_cases y : woI h k p < (baI h k p).2
    · rw [if_neg (by omega), bd_some, if_pos y]
      refine ⟨_, rfl, rfl, fun a' h1 h2 => ?_, fun j h1 => ?_, ?_, ?_⟩
      · dsimp only; rw [up_nk h1, up_nk h1, y2 a' h2]; exact gt a' h1 h2
      · dsimp only; rw [up_ni (by omega), up_ni (by omega), g7]; exact q3 j h1
      · dsimp only; rw [up_ni (by omega), up_eq]
      · dsimp only; rw [up_eq]
    · rw [if_pos (by omega), bd_some, if_neg y]
      exact ⟨_, rfl, rfl, fun a' h1 h2 => by dsimp only; rw [y2 a' h2]; exact gt a' h1 h2, fun j h1 => by dsimp only; rw [g7]; exact q3 j h1, by dsimp only; rw [g7]; exact q4, by dsimp only; rw [g7]; exact q5⟩) (fun s hi => by
    obtain ⟨p, q⟩ := s
    obtain ⟨q1, q2, q3, q4, q5⟩ := hi
    dsimp only at q1 q2 q3 q4 q5
    subst q1
    have p4 : q 174 4 = h 9 5 := by rw [q2 174 (by omega) (by omega)]; exact hTT.2.1
    refine ⟨q, ?_, q2, q3, q4, q5⟩
    simp only [md_laysAsk_b1, md_people, p4, bd_some]
    rw [if_neg (Int.lt_irrefl _)])
  refine ⟨u, ?_, Kt_M (t := t) hM ⟨r1, r2 6 (by omega), r2 14 (by omega), r2 15 (by omega)⟩, r3, r4⟩
  have x : up s 167 37 (-1) 167 34 = ctF h k (ishl 1 (h 9 1)) := by rw [up_ni (by omega)]; exact s3
  unfold md_laysAsk
  rw [es, bd_some, lt_eq, x, lt_eq, ← eG, e, bd_some]
end HEARD
