/-! Layer 2: the first season in which .., the last, the least -/
theorem fst_c {h F : Hp} {B : Int × Hp → Option ((Int × Hp) ⊕ (Hp ⊕ (Int × Hp)))} {cond : Int → Bool} {lo : Int} (hlo : 0 ≤ lo ∧ lo ≤ 13) (h1 : ∀ c m, lo ≤ c → c < 13 → Hm h F m → cond c = true → B (c, m) = some (.inr (.inr (c, F)))) (h2 : ∀ c m, lo ≤ c → c < 13 → Hm h F m → cond c = false → B (c, m) = some (.inl (c + 1, F))) (h3 : ∀ m, B (13, m) = some (.inr (.inl m))) : (∃ m, iter FU B (lo, h) = some (.inl m) ∧ Hm h F m ∧ Fst cond lo 13 (-1)) ∨ (∃ s m, iter FU B (lo, h) = some (.inr (s, m)) ∧ Hm h F m ∧ Fst cond lo 13 s) := by
  obtain ⟨r, e, q⟩ := lp_ex (body := B) (s0 := (lo, h)) (Q := fun r => (∃ m, r = .inl m ∧ Hm h F m ∧ Fst cond lo 13 (-1)) ∨ (∃ s m, r = .inr (s, m) ∧ Hm h F m ∧ Fst cond lo 13 s)) (fun i s => s.1 = lo + i ∧ Hm h F s.2 ∧ ∀ j, lo ≤ j → j < lo + i → cond j = false) (13 - lo) (by omega) (by omega) ⟨by dsimp only; omega, Or.inl rfl, fun j a b => by omega⟩ (fun i s a b hi => by
    obtain ⟨c, m⟩ := s
    obtain ⟨q1, q2, q3⟩ := hi
    dsimp only at q1 q2 q3
    cases z : cond c
    · refine Or.inl ⟨(c + 1, F), h2 c m (by omega) (by omega) q2 z, by dsimp only; omega, Or.inr rfl, ?_⟩
      intro j x y
      by_cases ej : j = c
      · rw [ej]; exact z
      · exact q3 j x (by omega)
    · exact Or.inr ⟨.inr (c, F), h1 c m (by omega) (by omega) q2 z, Or.inr ⟨c, F, rfl, Or.inr rfl, Or.inl ⟨by omega, by omega, z, fun j x y => q3 j x (by omega)⟩⟩⟩) (fun s hi => by
    obtain ⟨c, m⟩ := s
    obtain ⟨q1, q2, q3⟩ := hi
    dsimp only at q1 q2 q3
    have ec : c = 13 := by omega
    subst ec
    exact ⟨.inl m, h3 m, Or.inl ⟨m, rfl, q2, Or.inr ⟨rfl, fun j x y => q3 j x (by omega)⟩⟩⟩)
  rcases q with ⟨m, z1, z2, z3⟩ | ⟨s, m, z1, z2, z3⟩
  · exact Or.inl ⟨m, by rw [e, z1], z2, z3⟩
  · exact Or.inr ⟨s, m, by rw [e, z1], z2, z3⟩
theorem fst_m1 {h t : Hp} {B : Int × Hp → Option ((Int × Hp) ⊕ (Hp ⊕ (Int × Hp)))} {cond : Int → Bool} (kB : MB t (Sea h 0)) (kA : MA t (Sea h 0)) (mt : Mf h t) (h1 : ∀ c m, 0 ≤ c → c < 13 → MA m (Sea h c.toNat) → cond c = true → B (c, m) = some (.inr (.inr (c, m)))) (h2 : ∀ c m u, 0 ≤ c → c < 13 → MA m (Sea h c.toNat) → md_passes m c = some u → cond c = false → B (c, m) = some (.inl (c + 1, u))) (h3 : ∀ m, B (13, m) = some (.inr (.inl m))) : (∃ m, iter FU B (0, t) = some (.inl m) ∧ Mf h m ∧ Fst cond 0 13 (-1)) ∨ (∃ s m, iter FU B (0, t) = some (.inr (s, m)) ∧ Mf h m ∧ Fst cond 0 13 s) := by
  obtain ⟨r, e, q⟩ := lp_ex (body := B) (s0 := (0, t)) (Q := fun r => (∃ m, r = .inl m ∧ Mf h m ∧ Fst cond 0 13 (-1)) ∨ (∃ s m, r = .inr (s, m) ∧ Mf h m ∧ Fst cond 0 13 s)) (fun i s => s.1 = i ∧ MB s.2 (Sea h i.toNat) ∧ MA s.2 (Sea h i.toNat) ∧ Mf h s.2 ∧ ∀ j, 0 ≤ j → j < i → cond j = false) 13 (by omega) (by omega) ⟨rfl, kB, kA, mt, fun j a b => by omega⟩ (fun i s a b hi => by
    obtain ⟨c, m⟩ := s
    obtain ⟨q1, q2, q3, q4, q5⟩ := hi
    dsimp only at q1 q2 q3 q4 q5
    subst q1
    cases z : cond c
    · obtain ⟨u, e1, u1, u2, u3⟩ := Mf_passI q4 (s := c) (by omega) q2 q3
      refine Or.inl ⟨(c + 1, u), h2 c m u (by omega) (by omega) q3 e1 z, rfl, u1, u2, u3, ?_⟩
      intro j x y
      by_cases ej : j = c
      · rw [ej]; exact z
      · exact q5 j x (by omega)
    · exact Or.inr ⟨.inr (c, m), h1 c m (by omega) (by omega) q3 z, Or.inr ⟨c, m, rfl, q4, Or.inl ⟨by omega, by omega, z, fun j x y => q5 j x (by omega)⟩⟩⟩) (fun s hi => by
    obtain ⟨c, m⟩ := s
    obtain ⟨q1, q2, q3, q4, q5⟩ := hi
    dsimp only at q1 q2 q3 q4 q5
    subst q1
    exact ⟨.inl m, h3 m, Or.inl ⟨m, rfl, q4, Or.inr ⟨rfl, fun j x y => q5 j x (by omega)⟩⟩⟩)
  rcases q with ⟨m, z1, z2, z3⟩ | ⟨s, m, z1, z2, z3⟩
  · exact Or.inl ⟨m, by rw [e, z1], z2, z3⟩
  · exact Or.inr ⟨s, m, by rw [e, z1], z2, z3⟩
theorem fst_m2 {h t : Hp} {B : Int × Hp → Option ((Int × Hp) ⊕ (Hp ⊕ (Int × Hp)))} {cond : Int → Bool} (kB : MB t (Sea h 0)) (kA : MA t (Sea h 0)) (mt : Mf h t) (h1 : ∀ c m u, 0 ≤ c → c < 12 → md_passes m c = some u → MA u (Sea h (c + 1).toNat) → cond (c + 1) = true → B (c, m) = some (.inr (.inr (c + 1, u)))) (h2 : ∀ c m u, 0 ≤ c → c < 12 → md_passes m c = some u → MA u (Sea h (c + 1).toNat) → cond (c + 1) = false → B (c, m) = some (.inl (c + 1, u))) (h3 : ∀ m, B (12, m) = some (.inr (.inl m))) : (∃ m, iter FU B (0, t) = some (.inl m) ∧ Mf h m ∧ Fst cond 1 13 (-1)) ∨ (∃ s m, iter FU B (0, t) = some (.inr (s, m)) ∧ Mf h m ∧ Fst cond 1 13 s) := by
  obtain ⟨r, e, q⟩ := lp_ex (body := B) (s0 := (0, t)) (Q := fun r => (∃ m, r = .inl m ∧ Mf h m ∧ Fst cond 1 13 (-1)) ∨ (∃ s m, r = .inr (s, m) ∧ Mf h m ∧ Fst cond 1 13 s)) (fun i s => s.1 = i ∧ MB s.2 (Sea h i.toNat) ∧ MA s.2 (Sea h i.toNat) ∧ Mf h s.2 ∧ ∀ j, 1 ≤ j → j < i + 1 → cond j = false) 12 (by omega) (by omega) ⟨rfl, kB, kA, mt, fun j a b => by omega⟩ (fun i s a b hi => by
    obtain ⟨c, m⟩ := s
    obtain ⟨q1, q2, q3, q4, q5⟩ := hi
    dsimp only at q1 q2 q3 q4 q5
    subst q1
    obtain ⟨u, e1, u1, u2, u3⟩ := Mf_passI q4 (s := c) (by omega) q2 q3
    cases z : cond (c + 1)
    · refine Or.inl ⟨(c + 1, u), h2 c m u (by omega) (by omega) e1 u2 z, rfl, u1, u2, u3, ?_⟩
      intro j x y
      by_cases ej : j = c + 1
      · rw [ej]; exact z
      · exact q5 j x (by omega)
    · exact Or.inr ⟨.inr (c + 1, u), h1 c m u (by omega) (by omega) e1 u2 z, Or.inr ⟨c + 1, u, rfl, u3, Or.inl ⟨by omega, by omega, z, fun j x y => q5 j x (by omega)⟩⟩⟩) (fun s hi => by
    obtain ⟨c, m⟩ := s
    obtain ⟨q1, q2, q3, q4, q5⟩ := hi
    dsimp only at q1 q2 q3 q4 q5
    subst q1
    exact ⟨.inl m, h3 m, Or.inl ⟨m, rfl, q4, Or.inr ⟨rfl, fun j x y => q5 j x (by omega)⟩⟩⟩)
  rcases q with ⟨m, z1, z2, z3⟩ | ⟨s, m, z1, z2, z3⟩
  · exact Or.inl ⟨m, by rw [e, z1], z2, z3⟩
  · exact Or.inr ⟨s, m, by rw [e, z1], z2, z3⟩
/-! nobody hates anything -/
def hhS (S : Sn) : Bool := decide (bs (upto (sP S) (fun p => decide (bs (hatS S p) ≠ 0))) = 0)
theorem hh_iff {S : Sn} (hP : sP S ≤ 6) : hhS S = true ↔ ∀ j, 0 ≤ j → j < sP S → bs (hatS S j) = 0 := by
  unfold hhS
  rw [decide_eq_true_eq, bs_eq0]
  constructor
  · intro q j a b
    have := q j a (by omega)
    unfold upto at this
    simpa [b] using this
  · intro q j a b
    unfold upto
    by_cases z : j < sP S
    · simp [z, q j a z]
    · simp [z]
theorem c_hasHate {h : Hp} {o : Nat} {S : Sn} (hW : WF S) (hC : CP h o S) : sn_hasHate h o = some (bt (!hhS S) 1) := by
  have hP := hW.2.2.1
  have c2 := hC.2.2.1
  unfold sn_hasHate
  obtain ⟨r, e, q⟩ := lp_ex (body := sn_hasHate_b1 h o) (s0 := 0) (Q := fun r => (r = .inl () ∧ hhS S = true) ∨ (r = .inr 1 ∧ hhS S = false)) (fun i s => s = i ∧ ∀ j, 0 ≤ j → j < i → bs (hatS S j) = 0) (sP S) (by omega) (by omega) ⟨rfl, fun j a b => by omega⟩ (fun i s a b hi => by
    obtain ⟨q1, q2⟩ := hi
    subst q1
    have e1 := c_hated hW hC (p := s) (by omega)
    by_cases z : bs (hatS S s) = 0
    · refine Or.inl ⟨s + 1, ?_, rfl, ?_⟩
      · simp (disch := omega) only [sn_hasHate_b1, c2, e1, z, bd_some, lt_eq, bI_wr, bI_t, bI_f, if_neg, if_pos, if_true, if_false, wr_id, chk_t]
      · intro j x y
        by_cases ej : j = s
        · rw [ej]; exact z
        · exact q2 j x (by omega)
    · refine Or.inr ⟨.inr 1, ?_, Or.inr ⟨rfl, ?_⟩⟩
      · simp (disch := omega) only [sn_hasHate_b1, c2, e1, z, wr_bs, bd_some, lt_eq, bI_wr, bI_t, bI_f, if_neg, if_pos, if_true, if_false, wr_id, chk_t]
      · cases y : hhS S
        · rfl
        · exact absurd ((hh_iff hP.2).mp y s a b) z) (fun s hi => by
    obtain ⟨q1, q2⟩ := hi
    subst q1
    refine ⟨.inl (), ?_, Or.inl ⟨rfl, (hh_iff hP.2).mpr q2⟩⟩
    simp (disch := omega) only [sn_hasHate_b1, c2, bd_some, lt_eq, bI_wr, bI_t, bI_f, if_neg, if_pos, if_true, if_false, wr_id, chk_t])
  rw [e, bd_some]
  rcases q with ⟨z1, z2⟩ | ⟨z1, z2⟩
  · rw [z1, z2]; rfl
  · rw [z1, z2]; rfl
theorem m_hasHate {t : Hp} {S : Sn} (hW : WF S) (hM : MP t S) (z : Int × Hp) (hz : z.2 = t) : iter FU (md_peace_b2 z) (1, 0) = some (bt (hhS S) 1) := by
  have hP := hW.2.2.1
  have c2 := hM.2.2.1
  obtain ⟨r, e, q⟩ := lp (body := md_peace_b2 z) (s0 := (1, 0)) (Q := fun r => r = bt (hhS S) 1) (fun i s => s.2 = i ∧ ((s.1 = 1 ∧ ∀ j, 0 ≤ j → j < i → bs (hatS S j) = 0) ∨ (s.1 = 0 ∧ ∃ j, 0 ≤ j ∧ j < i ∧ bs (hatS S j) ≠ 0))) (sP S) (by omega) (by omega) ⟨rfl, Or.inl ⟨rfl, fun j a b => by omega⟩⟩ (fun i s a b hi => by
    obtain ⟨v, c⟩ := s
    obtain ⟨q1, q2⟩ := hi
    dsimp only at q1 q2
    subst q1
    have e1 := m_hates hW hM (p := c) ⟨a, b⟩
    refine ⟨(iand v (if bs (hatS S c) = 0 then 1 else 0), c + 1), ?_, rfl, ?_⟩
    · simp (disch := omega) only [md_peace_b2, md_people, hz, c2, e1, wr_bs, bd_some, if_pos, wr_id]
    · dsimp only
      by_cases y : bs (hatS S c) = 0
      · rw [if_pos y]
        rcases q2 with ⟨x1, x2⟩ | ⟨x1, j, x2, x3, x4⟩
        · refine Or.inl ⟨by rw [x1]; decide, ?_⟩
          intro j h1 h2
          by_cases ej : j = c
          · rw [ej]; exact y
          · exact x2 j h1 (by omega)
        · exact Or.inr ⟨by rw [x1]; decide, j, x2, by omega, x4⟩
      · rw [if_neg y]
        refine Or.inr ⟨?_, c, a, by omega, y⟩
        rcases q2 with ⟨x1, _⟩ | ⟨x1, _⟩ <;> (rw [x1]; decide)) (fun s hi => by
    obtain ⟨v, c⟩ := s
    obtain ⟨q1, q2⟩ := hi
    dsimp only at q1 q2
    subst q1
    refine ⟨v, ?_, ?_⟩
    · simp (disch := omega) only [md_peace_b2, md_people, hz, c2, bd_some, if_neg, wr_id]
    · rcases q2 with ⟨x1, x2⟩ | ⟨x1, j, x2, x3, x4⟩
      · rw [x1, (hh_iff hP.2).mpr x2]; rfl
      · have : hhS S = false := by
          cases y : hhS S
          · rfl
          · exact absurd ((hh_iff hP.2).mp y j x2 x3) x4
        rw [x1, this]; rfl)
  rw [e, q]
theorem st_peace : St_peace INV := by
  intro h hI
  obtain ⟨_, lK, lL, _, _, lP, _⟩ := INV_l hI
  have tc := th_cond hI
  by_cases g : h 9 0 = 1
  · obtain ⟨F, hF⟩ := s_at hI
    obtain ⟨v, m, ec, r2, r3⟩ : ∃ v m, sf_peace h = some (v, m) ∧ Hm h F m ∧ Fst (fun s => hhS (Sea h s.toNat)) 0 13 v := by
      unfold sf_peace
      rw [if_neg (by rw [tc]; simp [g])]
      rcases fst_c (h := h) (F := F) (B := sf_peace_b1) (cond := fun s => hhS (Sea h s.toNat)) (lo := 0) (by omega) (fun c m a b hm z => by
        have e1 := Hm_at hF hm (s := c) (by omega)
        have e2 := c_hasHate (Sea_ok hI c.toNat).1 (ca_at hF (s := c) (by omega)).1
        rw [z] at e2
        simp (disch := omega) only [sf_peace_b1, e1, ch_s, e2, Bool.not_true, bt, Bool.false_eq_true, bd_some, lt_eq, bI_wr, bI_t, bI_f, if_neg, if_pos, if_true, if_false, wr_id, chk_t]) (fun c m a b hm z => by
        have e1 := Hm_at hF hm (s := c) (by omega)
        have e2 := c_hasHate (Sea_ok hI c.toNat).1 (ca_at hF (s := c) (by omega)).1
        rw [z] at e2
        simp (disch := omega) only [sf_peace_b1, e1, ch_s, e2, Bool.not_false, bt, bd_some, lt_eq, bI_wr, bI_t, bI_f, if_neg, if_pos, if_true, if_false, wr_id, chk_t]) (fun m => by
        simp (disch := omega) only [sf_peace_b1, bd_some, lt_eq, bI_wr, bI_t, bI_f, if_neg, if_pos, if_true, if_false, wr_id, chk_t]) with ⟨m, z1, z2, z3⟩ | ⟨s, m, z1, z2, z3⟩
      · exact ⟨-1, m, by rw [z1]; rfl, z2, z3⟩
      · exact ⟨s, m, by rw [z1]; rfl, z2, z3⟩
    have m0 := Hm_M hI hF r2
    obtain ⟨t, et, kB, kA, mt⟩ := Mf_first m0
    have em := Mf_isF hI m0
    rw [bI_t g] at em
    rcases fst_m1 (B := md_peace_b1) (cond := fun s => hhS (Sea h s.toNat)) kB kA mt (fun c m a b hm z => by
      have e2 := m_hasHate (Sea_ok hI c.toNat).1 hm.1 (c, m) rfl
      rw [z] at e2
      simp (disch := omega) only [md_peace_b1, e2, bt, bd_some, lt_eq, bI_wr, bI_t, bI_f, if_neg, if_pos, if_true, if_false, wr_id, chk_t]) (fun c m u a b hm e1 z => by
      have e2 := m_hasHate (Sea_ok hI c.toNat).1 hm.1 (c, m) rfl
      rw [z] at e2
      simp (disch := omega) only [md_peace_b1, e1, e2, bt, Bool.false_eq_true, bd_some, lt_eq, bI_wr, bI_t, bI_f, if_neg, if_pos, if_true, if_false, wr_id, chk_t]) (fun m => by
      simp (disch := omega) only [md_peace_b1, bd_some, lt_eq, bI_wr, bI_t, bI_f, if_neg, if_pos, if_true, if_false, wr_id, chk_t]) with ⟨m', z1, z2, z3⟩ | ⟨s, m', z1, z2, z3⟩
    · refine ⟨v, m, -1, m', ec, ?_, by rw [Fst_u (by omega) r3 z3], z2.1⟩
      simp (disch := omega) only [md_peace, em, et, z1, bd_some, lt_eq, bI_wr, bI_t, bI_f, if_neg, if_pos, if_true, if_false, wr_id, chk_t]
    · refine ⟨v, m, s, m', ec, ?_, by rw [Fst_u (by omega) r3 z3], z2.1⟩
      simp (disch := omega) only [md_peace, em, et, z1, bd_some, lt_eq, bI_wr, bI_t, bI_f, if_neg, if_pos, if_true, if_false, wr_id, chk_t]
  · have m0 : Mf h (up h 167 0 0) := Mf_self hI
    refine ⟨-2, h, -2, up h 167 0 0, ?_, ?_, rfl, m0.1⟩
    · unfold sf_peace; rw [if_pos (by rw [tc]; exact g)]
    · simp (disch := omega) only [md_peace, Mf_isF hI m0, bd_some, lt_eq, bI_wr, bI_t, bI_f, if_neg, if_pos, if_true, if_false, wr_id, chk_t]
theorem st_change : St_change INV := by
  intro h hI a1 w1
  have b1 := in32 w1
  obtain ⟨_, lK, lL, _, _, lP, _⟩ := INV_l hI
  by_cases g : 0 ≤ a1 ∧ a1 < h 9 5
  · obtain ⟨F, hF⟩ := s_at hI
    have eg0 : F (63 + 8 * (0 : Int).toNat + 6) a1 = grS (Sea h 0) a1 := (ca_at hF (s := 0) (by omega)).2.2.2.1 a1 g.1 (by have := (Sea_ok hI 0).2.2.2.2.1; exact this ▸ g.2)
    have hg0 := grS_in (Sea h 0) a1
    obtain ⟨v, m, ec, r2, r3⟩ : ∃ v m, sf_change h a1 = some (v, m) ∧ Hm h F m ∧ Fst (fun s => decide (grS (Sea h s.toNat) a1 ≠ grS (Sea h 0) a1)) 1 13 v := by
      unfold sf_change
      rw [c_isP hI w1, bI_t g, bd_some, if_neg (by decide)]
      rcases fst_c (h := h) (F := F) (B := sf_change_b1 a1) (cond := fun s => decide (grS (Sea h s.toNat) a1 ≠ grS (Sea h 0) a1)) (lo := 1) (by omega) (fun c m a b hm z => by
        have e1 := Hm_at hF hm (s := c) (by omega)
        have e0 := Hm_at hF (Or.inr rfl) (s := 0) (by omega)
        have eP := (Sea_ok hI c.toNat).2.2.2.2.1
        have e2 := (ca_at hF (s := c) (by omega)).2.2.2.1 a1 g.1 (by omega)
        have hg := grS_in (Sea h c.toNat) a1
        have z' := of_decide_eq_true z
        simp (disch := omega) only [sf_change_b1, e1, e0, ch_s, e2, eg0, z', bd_some, lt_eq, bI_wr, bI_t, bI_f, if_neg, if_pos, if_true, if_false, wr_id, chk_t]) (fun c m a b hm z => by
        have e1 := Hm_at hF hm (s := c) (by omega)
        have e0 := Hm_at hF (Or.inr rfl) (s := 0) (by omega)
        have eP := (Sea_ok hI c.toNat).2.2.2.2.1
        have e2 := (ca_at hF (s := c) (by omega)).2.2.2.1 a1 g.1 (by omega)
        have hg := grS_in (Sea h c.toNat) a1
        have z' : grS (Sea h c.toNat) a1 = grS (Sea h 0) a1 := Classical.byContradiction (fun y => by
          rw [decide_eq_true y] at z; exact absurd z (by simp))
        simp (disch := omega) only [sf_change_b1, e1, e0, ch_s, e2, eg0, z', bd_some, lt_eq, bI_wr, bI_t, bI_f, if_neg, if_pos, if_true, if_false, wr_id, chk_t]) (fun m => by
        simp (disch := omega) only [sf_change_b1, bd_some, lt_eq, bI_wr, bI_t, bI_f, if_neg, if_pos, if_true, if_false, wr_id, chk_t]) with ⟨m, z1, z2, z3⟩ | ⟨s, m, z1, z2, z3⟩
      · exact ⟨-1, m, by rw [z1]; rfl, z2, z3⟩
      · exact ⟨s, m, by rw [z1]; rfl, z2, z3⟩
    have m0 := Hm_M hI hF r2
    have p1 := Mf_isP hI m0 w1
    rw [w1, bI_t g] at p1
    obtain ⟨t, et, kB, kA, mt⟩ := Mf_first m0
    have et0 := MA_g (Sea_ok hI 0).2.1 kA (p := a1) (by have := (Sea_ok hI 0).2.2.2.2.1; omega)
    rcases fst_m2 (B := md_change_b1 a1 t) (cond := fun s => decide (grS (Sea h s.toNat) a1 ≠ grS (Sea h 0) a1)) kB kA mt (fun c m u a b e1 hm z => by
      have e2 := MA_g (Sea_ok hI (c + 1).toNat).2.1 hm (p := a1) (by have := (Sea_ok hI (c + 1).toNat).2.2.2.2.1; omega)
      have hg := grS_in (Sea h (c + 1).toNat) a1
      have z' := of_decide_eq_true z
      simp (disch := omega) only [md_change_b1, e1, e2, et0, z', bd_some, lt_eq, bI_wr, bI_t, bI_f, if_neg, if_pos, if_true, if_false, wr_id, chk_t]) (fun c m u a b e1 hm z => by
      have e2 := MA_g (Sea_ok hI (c + 1).toNat).2.1 hm (p := a1) (by have := (Sea_ok hI (c + 1).toNat).2.2.2.2.1; omega)
      have hg := grS_in (Sea h (c + 1).toNat) a1
      have z' : grS (Sea h (c + 1).toNat) a1 = grS (Sea h 0) a1 := Classical.byContradiction (fun y => by
        rw [decide_eq_true y] at z; exact absurd z (by simp))
      simp (disch := omega) only [md_change_b1, e1, e2, et0, z', bd_some, lt_eq, bI_wr, bI_t, bI_f, if_neg, if_pos, if_true, if_false, wr_id, chk_t]) (fun m => by
      simp (disch := omega) only [md_change_b1, bd_some, lt_eq, bI_wr, bI_t, bI_f, if_neg, if_pos, if_true, if_false, wr_id, chk_t]) with ⟨m', z1, z2, z3⟩ | ⟨s, m', z1, z2, z3⟩
    · refine ⟨v, m, -1, m', ec, ?_, by rw [Fst_u (by omega) r3 z3], z2.1⟩
      simp (disch := omega) only [md_change, w1, p1, et, z1, bd_some, lt_eq, bI_wr, bI_t, bI_f, if_neg, if_pos, if_true, if_false, wr_id, chk_t]
    · refine ⟨v, m, s, m', ec, ?_, by rw [Fst_u (by omega) r3 z3], z2.1⟩
      simp (disch := omega) only [md_change, w1, p1, et, z1, bd_some, lt_eq, bI_wr, bI_t, bI_f, if_neg, if_pos, if_true, if_false, wr_id, chk_t]
  · have m0 : Mf h (up h 167 0 0) := Mf_self hI
    have p1 := Mf_isP hI m0 w1
    rw [w1] at p1
    refine ⟨-2, h, -2, up h 167 0 0, ?_, ?_, rfl, m0.1⟩
    · simp (disch := omega) only [sf_change, c_isP hI w1, bd_some, lt_eq, bI_wr, bI_t, bI_f, if_neg, if_pos, if_true, if_false, wr_id, chk_t]
    · simp (disch := omega) only [md_change, w1, p1, bd_some, lt_eq, bI_wr, bI_t, bI_f, if_neg, if_pos, if_true, if_false, wr_id, chk_t]
theorem st_cools : St_cools INV := by
  intro h hI a1 a2 w1 w2
  have b1 := in32 w1
  have b2 := in32 w2
  obtain ⟨_, lK, lL, _, _, lP, _, _, lT, _⟩ := INV_l hI
  by_cases g : 0 ≤ a1 ∧ a1 < h 9 5
  · by_cases g2 : 0 ≤ a2 ∧ a2 < h 9 1
    · have tt := lT (a1 * 5 + a2) (by omega) (by omega)
      have e : 5 * a1 + a2 = a1 * 5 + a2 := by omega
      have nT : ∀ t, Mf h t → t 175 (a1 * 5 + a2) = h 10 (a1 * 5 + a2) := by
        intro t m0
        have nT := (Mf_L0 m0).2.2.2.2.2.2.2.1 (a1 * 5 + a2) (by omega) (by rw [m0.2 9 (by omega) (by omega)]; omega)
        rw [m0.2 10 (by omega) (by omega)] at nT
        exact nT
      by_cases g3 : 0 ≤ h 10 (a1 * 5 + a2)
      · have m0 : Mf h (up h 167 0 0) := Mf_self hI
        have p1 := Mf_isP hI m0 w1
        have p2 := Mf_isK hI m0 w2
        rw [w1, bI_t g] at p1
        rw [w2, bI_t g2] at p2
        have nt := nT _ m0
        refine ⟨-1, h, -1, up h 167 0 0, ?_, ?_, rfl, m0.1⟩
        · simp (disch := omega) only [sf_cools, c_isP hI w1, c_isK hI w2, bd_some, lt_eq, bI_wr, bI_t, bI_f, if_neg, if_pos, if_true, if_false, wr_id, chk_t]
        · simp (disch := omega) only [md_cools, w1, w2, p1, p2, e, nt, bd_some, lt_eq, bI_wr, bI_t, bI_f, if_neg, if_pos, if_true, if_false, wr_id, chk_t]
      · obtain ⟨F, hF⟩ := s_at hI
        obtain ⟨v, m, ec, r2, r3⟩ : ∃ v m, sf_cools h a1 a2 = some (v, m) ∧ Hm h F m ∧ Fst (fun s => decide (0 ≤ sT (Sea h s.toNat) (a1 * 5 + a2))) 1 13 v := by
          rcases fst_c (h := h) (F := F) (B := sf_cools_b1 a1 a2) (cond := fun s => decide (0 ≤ sT (Sea h s.toNat) (a1 * 5 + a2))) (lo := 1) (by omega) (fun c m a b hm z => by
            have e1 := Hm_at hF hm (s := c) (by omega)
            have e2 := c_ta (ca_at hF (s := c) (by omega)).1 (p := a1) (k := a2) (by omega) (by omega)
            rw [taS_pos (by omega)] at e2
            have ht := (Sea_ok hI c.toNat).1.2.2.2.2.1 (a1 * 5 + a2)
            have z' := of_decide_eq_true z
            simp (disch := omega) only [sf_cools_b1, e1, ch_s, e2, bd_some, lt_eq, bI_wr, bI_t, bI_f, if_neg, if_pos, if_true, if_false, wr_id, chk_t]) (fun c m a b hm z => by
            have e1 := Hm_at hF hm (s := c) (by omega)
            have e2 := c_ta (ca_at hF (s := c) (by omega)).1 (p := a1) (k := a2) (by omega) (by omega)
            rw [taS_pos (by omega)] at e2
            have ht := (Sea_ok hI c.toNat).1.2.2.2.2.1 (a1 * 5 + a2)
            have z' := of_decide_eq_false z
            simp (disch := omega) only [sf_cools_b1, e1, ch_s, e2, bd_some, lt_eq, bI_wr, bI_t, bI_f, if_neg, if_pos, if_true, if_false, wr_id, chk_t]) (fun m => by
            simp (disch := omega) only [sf_cools_b1, bd_some, lt_eq, bI_wr, bI_t, bI_f, if_neg, if_pos, if_true, if_false, wr_id, chk_t]) with ⟨m, z1, z2, z3⟩ | ⟨s, m, z1, z2, z3⟩
          · exact ⟨-1, m, by simp (disch := omega) only [sf_cools, c_isP hI w1, c_isK hI w2, z1, bd_some, lt_eq, bI_wr, bI_t, bI_f, if_neg, if_pos, if_true, if_false, wr_id, chk_t], z2, z3⟩
          · exact ⟨s, m, by simp (disch := omega) only [sf_cools, c_isP hI w1, c_isK hI w2, z1, bd_some, lt_eq, bI_wr, bI_t, bI_f, if_neg, if_pos, if_true, if_false, wr_id, chk_t], z2, z3⟩
        have m0 := Hm_M hI hF r2
        have p1 := Mf_isP hI m0 w1
        have p2 := Mf_isK hI m0 w2
        rw [w1, bI_t g] at p1
        rw [w2, bI_t g2] at p2
        have nt := nT _ m0
        obtain ⟨t, et, kB, kA, mt⟩ := Mf_first m0
        rcases fst_m2 (B := md_cools_b1 a1 a2) (cond := fun s => decide (0 ≤ sT (Sea h s.toNat) (a1 * 5 + a2))) kB kA mt (fun c m u a b e1 hm z => by
          have eP := (Sea_ok hI (c + 1).toNat).2.2.2.2.1
          have e2 := m_ta hm.1 (by omega) (p := a1) (k := a2) (by omega) (by omega)
          have ht := (Sea_ok hI (c + 1).toNat).1.2.2.2.2.1 (a1 * 5 + a2)
          have z' := of_decide_eq_true z
          simp (disch := omega) only [md_cools_b1, e1, e2, bd_some, lt_eq, bI_wr, bI_t, bI_f, if_neg, if_pos, if_true, if_false, wr_id, chk_t]) (fun c m u a b e1 hm z => by
          have eP := (Sea_ok hI (c + 1).toNat).2.2.2.2.1
          have e2 := m_ta hm.1 (by omega) (p := a1) (k := a2) (by omega) (by omega)
          have ht := (Sea_ok hI (c + 1).toNat).1.2.2.2.2.1 (a1 * 5 + a2)
          have z' := of_decide_eq_false z
          simp (disch := omega) only [md_cools_b1, e1, e2, bd_some, lt_eq, bI_wr, bI_t, bI_f, if_neg, if_pos, if_true, if_false, wr_id, chk_t]) (fun m => by
          simp (disch := omega) only [md_cools_b1, bd_some, lt_eq, bI_wr, bI_t, bI_f, if_neg, if_pos, if_true, if_false, wr_id, chk_t]) with ⟨m', z1, z2, z3⟩ | ⟨s, m', z1, z2, z3⟩
        · refine ⟨v, m, -1, m', ec, ?_, by rw [Fst_u (by omega) r3 z3], z2.1⟩
          simp (disch := omega) only [md_cools, w1, w2, p1, p2, e, nt, et, z1, bd_some, lt_eq, bI_wr, bI_t, bI_f, if_neg, if_pos, if_true, if_false, wr_id, chk_t]
        · refine ⟨v, m, s, m', ec, ?_, by rw [Fst_u (by omega) r3 z3], z2.1⟩
          simp (disch := omega) only [md_cools, w1, w2, p1, p2, e, nt, et, z1, bd_some, lt_eq, bI_wr, bI_t, bI_f, if_neg, if_pos, if_true, if_false, wr_id, chk_t]
    · have m0 : Mf h (up h 167 0 0) := Mf_self hI
      have p1 := Mf_isP hI m0 w1
      have p2 := Mf_isK hI m0 w2
      rw [w1] at p1
      rw [w2] at p2
      refine ⟨-2, h, -2, up h 167 0 0, ?_, ?_, rfl, m0.1⟩
      · simp (disch := omega) only [sf_cools, c_isP hI w1, c_isK hI w2, bd_some, lt_eq, bI_wr, bI_t, bI_f, if_neg, if_pos, if_true, if_false, wr_id, chk_t]
      · simp (disch := omega) only [md_cools, w1, w2, p1, p2, bd_some, lt_eq, bI_wr, bI_t, bI_f, if_neg, if_pos, if_true, if_false, wr_id, chk_t]
  · have m0 : Mf h (up h 167 0 0) := Mf_self hI
    have p1 := Mf_isP hI m0 w1
    rw [w1] at p1
    refine ⟨-2, h, -2, up h 167 0 0, ?_, ?_, rfl, m0.1⟩
    · simp (disch := omega) only [sf_cools, c_isP hI w1, bd_some, lt_eq, bI_wr, bI_t, bI_f, if_neg, if_pos, if_true, if_false, wr_id, chk_t]
    · simp (disch := omega) only [md_cools, w1, p1, bd_some, lt_eq, bI_wr, bI_t, bI_f, if_neg, if_pos, if_true, if_false, wr_id, chk_t]
def Lst (c : Int → Bool) (n r : Int) : Prop := (0 ≤ r ∧ r < n ∧ c r = true ∧ ∀ j, r < j → j < n → c j = false) ∨ (r = -1 ∧ ∀ j, 0 ≤ j → j < n → c j = false)
theorem Lst_u {c : Int → Bool} {n r r' : Int} (a : Lst c n r) (b : Lst c n r') : r = r' := by
  rcases a with ⟨a1, a2, a3, a4⟩ | ⟨a1, a2⟩
  · rcases b with ⟨b1, b2, b3, b4⟩ | ⟨b1, b2⟩
    · by_cases q : r < r'
      · have := a4 r' q b2; rw [b3] at this; exact absurd this (by simp)
      · by_cases q2 : r' < r
        · have := b4 r q2 a2; rw [a3] at this; exact absurd this (by simp)
        · omega
    · have := b2 r a1 a2; rw [a3] at this; exact absurd this (by simp)
  · rcases b with ⟨b1, b2, b3, b4⟩ | ⟨b1, b2⟩
    · have := a2 r' b1 b2; rw [b3] at this; exact absurd this (by simp)
    · omega
theorem st_lasts : St_lasts INV := by
  intro h hI a1 w1
  have b1 := in32 w1
  obtain ⟨_, lK, lL, _, _, lP, _⟩ := INV_l hI
  by_cases g : 0 ≤ a1 ∧ a1 < h 9 1
  · obtain ⟨F, hF⟩ := s_at hI
    obtain ⟨v, m, ec, r2, r3⟩ : ∃ v m, sf_lasts h a1 = some (v, m) ∧ Hm h F m ∧ Lst (fun s => decide (bs (gwS (Sea h s.toNat) a1) ≠ 0)) 13 v := by
      obtain ⟨r, e, q⟩ := lp_ex (body := sf_lasts_b1 a1) (s0 := (12, h)) (Q := fun r => (∃ m, r = .inl m ∧ Hm h F m ∧ Lst (fun s => decide (bs (gwS (Sea h s.toNat) a1) ≠ 0)) 13 (-1)) ∨ (∃ s m, r = .inr (s, m) ∧ Hm h F m ∧ Lst (fun s => decide (bs (gwS (Sea h s.toNat) a1) ≠ 0)) 13 s)) (fun i s => s.1 = 12 - i ∧ Hm h F s.2 ∧ ∀ j, 12 - i < j → j < 13 → decide (bs (gwS (Sea h j.toNat) a1) ≠ 0) = false) 13 (by omega) (by omega) ⟨rfl, Or.inl rfl, fun j a b => by omega⟩ (fun i s a b hi => by
        obtain ⟨c, m⟩ := s
        obtain ⟨q1, q2, q3⟩ := hi
        dsimp only at q1 q2 q3
        have e1 := Hm_at hF q2 (s := c) (by omega)
        have e2 := c_growers (Sea_ok hI c.toNat).1 (ca_at hF (s := c) (by omega)) (k := a1) (by omega)
        by_cases z : bs (gwS (Sea h c.toNat) a1) = 0
        · refine Or.inl ⟨(c + (-1), F), ?_, by dsimp only; omega, Or.inr rfl, ?_⟩
          · simp (disch := omega) only [sf_lasts_b1, e1, e2, ch_s, z, bd_some, lt_eq, bI_wr, bI_t, bI_f, if_neg, if_pos, if_true, if_false, wr_id, chk_t]
          · intro j x y
            by_cases ej : j = c
            · rw [ej]; simp [z]
            · exact q3 j (by omega) y
        · refine Or.inr ⟨.inr (c, F), ?_, Or.inr ⟨c, F, rfl, Or.inr rfl, Or.inl ⟨by omega, by omega, by simp [z], fun j x y => q3 j (by omega) y⟩⟩⟩
          simp (disch := omega) only [sf_lasts_b1, e1, e2, ch_s, wr_bs, z, bd_some, lt_eq, bI_wr, bI_t, bI_f, if_neg, if_pos, if_true, if_false, wr_id, chk_t]) (fun s hi => by
        obtain ⟨c, m⟩ := s
        obtain ⟨q1, q2, q3⟩ := hi
        dsimp only at q1 q2 q3
        refine ⟨.inl m, ?_, Or.inl ⟨m, rfl, q2, Or.inr ⟨rfl, fun j x y => q3 j (by omega) y⟩⟩⟩
        simp (disch := omega) only [sf_lasts_b1, bd_some, lt_eq, bI_wr, bI_t, bI_f, if_neg, if_pos, if_true, if_false, wr_id, chk_t])
      rcases q with ⟨m, z1, z2, z3⟩ | ⟨s, m, z1, z2, z3⟩
      · exact ⟨-1, m, by simp (disch := omega) only [sf_lasts, c_isK hI w1, e, z1, bd_some, lt_eq, bI_wr, bI_t, bI_f, if_neg, if_pos, if_true, if_false, wr_id, chk_t], z2, z3⟩
      · exact ⟨s, m, by simp (disch := omega) only [sf_lasts, c_isK hI w1, e, z1, bd_some, lt_eq, bI_wr, bI_t, bI_f, if_neg, if_pos, if_true, if_false, wr_id, chk_t], z2, z3⟩
    have m0 := Hm_M hI hF r2
    have p1 := Mf_isK hI m0 w1
    rw [w1, bI_t g] at p1
    obtain ⟨t, et, kB, kA, mt⟩ := Mf_first m0
    obtain ⟨r, e, z1, z2⟩ := lp (body := md_lasts_b1 a1) (s0 := (-1, 0, t)) (Q := fun r => Lst (fun s => decide (bs (gwS (Sea h s.toNat) a1) ≠ 0)) 13 r.1 ∧ Mf h r.2) (fun i s => s.2.1 = i ∧ MB s.2.2 (Sea h i.toNat) ∧ MA s.2.2 (Sea h i.toNat) ∧ Mf h s.2.2 ∧ Lst (fun s => decide (bs (gwS (Sea h s.toNat) a1) ≠ 0)) i s.1) 13 (by omega) (by omega) ⟨rfl, kB, kA, mt, Or.inr ⟨rfl, fun j x y => by omega⟩⟩ (fun i s a b hi => by
      obtain ⟨v, c, m⟩ := s
      obtain ⟨q1, q2, q3, q4, q5⟩ := hi
      dsimp only at q1 q2 q3 q4 q5
      subst q1
      obtain ⟨u, e1, u1, u2, u3⟩ := Mf_passI q4 (s := c) (by omega) q2 q3
      have e2 := m_growers (Sea_ok hI c.toNat).1 (Sea_ok hI c.toNat).2.1 q3 (k := a1) (by omega)
      refine ⟨(if bs (gwS (Sea h c.toNat) a1) = 0 then v else c, c + 1, u), ?_, rfl, u1, u2, u3, ?_⟩
      · simp (disch := omega) only [md_lasts_b1, e1, e2, wr_bs, bd_some, if_pos, wr_id]
      · dsimp only
        by_cases z : bs (gwS (Sea h c.toNat) a1) = 0
        · rw [if_pos z]
          rcases q5 with ⟨x1, x2, x3, x4⟩ | ⟨x1, x2⟩
          · refine Or.inl ⟨x1, by omega, x3, ?_⟩
            intro j y1 y2
            by_cases ej : j = c
            · rw [ej]; simp [z]
            · exact x4 j y1 (by omega)
          · refine Or.inr ⟨x1, ?_⟩
            intro j y1 y2
            by_cases ej : j = c
            · rw [ej]; simp [z]
            · exact x2 j y1 (by omega)
        · rw [if_neg z]
          exact Or.inl ⟨a, by omega, by simp [z], fun j y1 y2 => by omega⟩) (fun s hi => by
      obtain ⟨v, c, m⟩ := s
      obtain ⟨q1, q2, q3, q4, q5⟩ := hi
      dsimp only at q1 q2 q3 q4 q5
      subst q1
      exact ⟨(v, m), by simp (disch := omega) only [md_lasts_b1, bd_some, lt_eq, bI_wr, bI_t, bI_f, if_neg, if_pos, if_true, if_false, wr_id, chk_t], q5, q4⟩)
    obtain ⟨v', m'⟩ := r
    dsimp only at z1 z2
    refine ⟨v, m, v', m', ec, ?_, by rw [Lst_u r3 z1], z2.1⟩
    simp (disch := omega) only [md_lasts, w1, p1, et, e, bd_some, lt_eq, bI_wr, bI_t, bI_f, if_neg, if_pos, if_true, if_false, wr_id, chk_t]
  · have m0 : Mf h (up h 167 0 0) := Mf_self hI
    have p1 := Mf_isK hI m0 w1
    rw [w1] at p1
    refine ⟨-2, h, -2, up h 167 0 0, ?_, ?_, rfl, m0.1⟩
    · simp (disch := omega) only [sf_lasts, c_isK hI w1, bd_some, lt_eq, bI_wr, bI_t, bI_f, if_neg, if_pos, if_true, if_false, wr_id, chk_t]
    · simp (disch := omega) only [md_lasts, w1, p1, bd_some, lt_eq, bI_wr, bI_t, bI_f, if_neg, if_pos, if_true, if_false, wr_id, chk_t]
def lnN (h : Hp) : Nat → Int
  | 0 => 0
  | n + 1 => if suS (Sea h n) < suS (Sea h (lnN h n).toNat) then (n : Int) else lnN h n
def lnI (h : Hp) (i : Int) : Int := lnN h i.toNat
theorem lnI_succ (h : Hp) {i : Int} (hi : 0 ≤ i) : lnI h (i + 1) = if suS (Sea h i.toNat) < suS (Sea h (lnI h i).toNat) then i else lnI h i := by
  unfold lnI
  have e : (i + 1).toNat = i.toNat + 1 := by omega
  have e2 : ((i.toNat : Nat) : Int) = i := by omega
  rw [e, lnN, e2]
theorem lnI_0 (h : Hp) : lnI h 0 = 0 := rfl
theorem lnI_1 (h : Hp) : lnI h 1 = 0 := by
  have := lnI_succ h (i := 0) (by omega)
  rw [lnI_0] at this
  rw [show (1 : Int) = 0 + 1 from rfl, this]
  split <;> rfl
theorem lnI_in (h : Hp) {n : Int} (hn : 0 ≤ n) : 0 ≤ lnI h n ∧ (lnI h n < n ∨ n = 0) :=
  ind_to (P := fun i => 0 ≤ lnI h i ∧ (lnI h i < i ∨ i = 0)) (n := n) (by rw [lnI_0]; omega) (fun i a b d => by
    rw [lnI_succ h a]
    by_cases z : i = 0
    · subst z; rw [lnI_0]; split <;> omega
    · split <;> omega) n hn (by omega)
theorem st_lean : St_lean INV := by
  intro h hI
  obtain ⟨_, lK, lL, _, _, lP, _⟩ := INV_l hI
  have tc := th_cond hI
  have su : ∀ s : Nat, -378 ≤ suS (Sea h s) ∧ suS (Sea h s) ≤ 54 := fun s => suS_in (Sea_ok hI s).1 (Sea_ok hI s).1.2.2.1
  by_cases g : h 9 0 = 1
  · obtain ⟨F, hF⟩ := s_at hI
    obtain ⟨r, e, y1, y2⟩ := lp (body := sf_lean_b1) (s0 := (0, 1, h)) (Q := fun r => r.1 = lnI h 13 ∧ Hm h F r.2) (fun i s => s.1 = lnI h (i + 1) ∧ s.2.1 = i + 1 ∧ Hm h F s.2.2) 12 (by omega) (by omega) ⟨(lnI_1 h).symm, rfl, Or.inl rfl⟩ (fun i s a b hi => by
      obtain ⟨v, c, m⟩ := s
      obtain ⟨q1, q2, q3⟩ := hi
      dsimp only at q1 q2 q3
      have hv := lnI_in h (n := i + 1) (by omega)
      rw [← q1] at hv
      have e1 := Hm_at hF q3 (s := c) (by omega)
      have e2 := c_sum (Sea_ok hI c.toNat).1 (ca_at hF (s := c) (by omega))
      have e3 := Hm_at hF (Or.inr rfl) (s := v) (by omega)
      have e4 := c_sum (Sea_ok hI v.toNat).1 (ca_at hF (s := v) (by omega))
      have s1 := su c.toNat
      have s2 := su v.toNat
      refine ⟨(lnI h (i + 1 + 1), c + 1, F), ?_, rfl, by dsimp only; omega, Or.inr rfl⟩
      rw [lnI_succ h (show 0 ≤ i + 1 by omega), ← q1, ← q2]
      simp (disch := omega) only [sf_lean_b1, e1, e2, e3, e4, ch_s, bd_some, if_pos, wr_id]) (fun s hi => by
      obtain ⟨v, c, m⟩ := s
      obtain ⟨q1, q2, q3⟩ := hi
      dsimp only at q1 q2 q3
      exact ⟨(v, m), by simp (disch := omega) only [sf_lean_b1, bd_some, lt_eq, bI_wr, bI_t, bI_f, if_neg, if_pos, if_true, if_false, wr_id, chk_t], q1, q3⟩)
    obtain ⟨v, m⟩ := r
    dsimp only at y1 y2
    have m0 := Hm_M hI hF y2
    obtain ⟨t, et, kB, kA, mt⟩ := Mf_first m0
    have em := Mf_isF hI m0
    rw [bI_t g] at em
    obtain ⟨r, e', z1, z2⟩ := lp (body := md_lean_b1) (s0 := (0, 100000, 0, t)) (Q := fun r => r.1 = lnI h 13 ∧ Mf h r.2) (fun i s => s.1 = lnI h i ∧ s.2.1 = (if i = 0 then 100000 else suS (Sea h (lnI h i).toNat)) ∧ s.2.2.1 = i ∧ MB s.2.2.2 (Sea h i.toNat) ∧ MA s.2.2.2 (Sea h i.toNat) ∧ Mf h s.2.2.2) 13 (by omega) (by omega) ⟨rfl, rfl, rfl, kB, kA, mt⟩ (fun i s a b hi => by
      obtain ⟨v, w, c, m⟩ := s
      obtain ⟨q1, q2, q3, q4, q5, q6⟩ := hi
      dsimp only at q1 q2 q3 q4 q5 q6
      subst q3
      obtain ⟨u, e1, u1, u2, u3⟩ := Mf_passI q6 (s := c) (by omega) q4 q5
      have e2 := m_hasAll (Sea_ok hI c.toNat).1 (Sea_ok hI c.toNat).2.1 q5
      have s1 := su c.toNat
      have s2 := su (lnI h c).toNat
      have hw : -378 ≤ w ∧ w ≤ 100000 := by rw [q2]; split <;> omega
      refine ⟨(if suS (Sea h c.toNat) < w then c else v, if suS (Sea h c.toNat) < w then suS (Sea h c.toNat) else w, c + 1, u), ?_, ?_, ?_, rfl, u1, u2, u3⟩
      · simp (disch := omega) only [md_lean_b1, e1, e2, bd_some, if_pos, wr_id]
      · dsimp only
        by_cases z : c = 0
        · subst z
          rw [q2, if_pos rfl, if_pos (by omega)]
          exact (lnI_1 h).symm
        · rw [q2, if_neg z, lnI_succ h a, q1]
      · dsimp only
        rw [if_neg (show ¬ (c + 1 = 0) by omega)]
        by_cases z : c = 0
        · subst z
          rw [q2, if_pos rfl, if_pos (by omega), show lnI h (0 + 1) = 0 from lnI_1 h]
        · rw [q2, if_neg z, lnI_succ h a]
          split <;> rfl) (fun s hi => by
      obtain ⟨v, w, c, m⟩ := s
      obtain ⟨q1, q2, q3, q4, q5, q6⟩ := hi
      dsimp only at q1 q2 q3 q4 q5 q6
      subst q3
      exact ⟨(v, m), by simp (disch := omega) only [md_lean_b1, bd_some, lt_eq, bI_wr, bI_t, bI_f, if_neg, if_pos, if_true, if_false, wr_id, chk_t], q1, q6⟩)
    obtain ⟨v', m'⟩ := r
    dsimp only at z1 z2
    refine ⟨v, m, v', m', ?_, ?_, by rw [y1, z1], z2.1⟩
    · unfold sf_lean
      rw [if_neg (by rw [tc]; simp [g]), e]; rfl
    · simp (disch := omega) only [md_lean, em, et, e', bd_some, lt_eq, bI_wr, bI_t, bI_f, if_neg, if_pos, if_true, if_false, wr_id, chk_t]
  · have m0 : Mf h (up h 167 0 0) := Mf_self hI
    refine ⟨-2, h, -2, up h 167 0 0, ?_, ?_, rfl, m0.1⟩
    · unfold sf_lean; rw [if_pos (by rw [tc]; exact g)]
    · simp (disch := omega) only [md_lean, Mf_isF hI m0, bd_some, lt_eq, bI_wr, bI_t, bI_f, if_neg, if_pos, if_true, if_false, wr_id, chk_t]
