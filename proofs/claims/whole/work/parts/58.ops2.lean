/-! Layer 2: calls that go through the seasons -/
def Hm (h F m : Hp) : Prop := m = h ∨ m = F
theorem Hm_at {h F m : Hp} (hF : Fil h F) (hm : Hm h F m) {s : Int} (hs : 0 ≤ s ∧ s < 13) : sf_seasonAt m s = some (63 + 8 * s.toNat, F) := by
  rcases hm with e | e
  · rw [e]; exact (hF.2.2.1 s hs.1 hs.2).1
  · rw [e]; exact (hF.2.2.1 s hs.1 hs.2).2
theorem Hm_9 {h F m : Hp} (hF : Fil h F) (hm : Hm h F m) : m 9 = h 9 := by
  rcases hm with e | e
  · rw [e]
  · rw [e]; exact Fil_9 hF
theorem Hm_M {h F m : Hp} (hI : INV h) (hF : Fil h F) (hm : Hm h F m) : Mf h (up m 167 0 0) := by
  rcases hm with e | e
  · rw [e]; exact Mf_self hI
  · rw [e]; exact Mf_0 hF (by omega) (by omega) (by omega)
theorem ca_at {h F : Hp} (hF : Fil h F) {s : Int} (hs : 0 ≤ s ∧ s < 13) : CA F (63 + 8 * s.toNat) (Sea h s.toNat) := hF.2.2.2.1 s.toNat (by omega)
theorem Mf_passI {h t : Hp} (hM : Mf h t) {s : Int} (hs : 0 ≤ s ∧ s < 13) (k1 : MB t (Sea h s.toNat)) (k2 : MA t (Sea h s.toNat)) : ∃ u, md_passes t s = some u ∧ MB u (Sea h (s + 1).toNat) ∧ MA u (Sea h (s + 1).toNat) ∧ Mf h u := by
  obtain ⟨u, e, q⟩ := Mf_pass hM (s := s.toNat) (by omega) k1 k2
  have e1 : ((s.toNat : Nat) : Int) = s := by omega
  have e2 : (s + 1).toNat = s.toNat + 1 := by omega
  rw [e1] at e
  rw [e2]
  exact ⟨u, e, q⟩
def Fst (c : Int → Bool) (lo n r : Int) : Prop := (lo ≤ r ∧ r < n ∧ c r = true ∧ ∀ j, lo ≤ j → j < r → c j = false) ∨ (r = -1 ∧ ∀ j, lo ≤ j → j < n → c j = false)
theorem Fst_u {c : Int → Bool} {lo n r r' : Int} (h : 0 ≤ lo) (a : Fst c lo n r) (b : Fst c lo n r') : r = r' := by
  rcases a with ⟨a1, a2, a3, a4⟩ | ⟨a1, a2⟩
  · rcases b with ⟨b1, b2, b3, b4⟩ | ⟨b1, b2⟩
    · by_cases q : r < r'
      · have := b4 r a1 q; rw [a3] at this; exact absurd this (by simp)
      · by_cases q2 : r' < r
        · have := a4 r' b1 q2; rw [b3] at this; exact absurd this (by simp)
        · omega
    · have := b2 r a1 a2; rw [a3] at this; exact absurd this (by simp)
  · rcases b with ⟨b1, b2, b3, b4⟩ | ⟨b1, b2⟩
    · have := a2 r' b1 b2; rw [b3] at this; exact absurd this (by simp)
    · omega
theorem st_kinds : St_kinds INV := by
  intro h hI a1 w1
  have b1 := in32 w1
  obtain ⟨_, lK, lL, _, _, lP, _⟩ := INV_l hI
  by_cases g : h 9 0 = 1 ∧ 0 ≤ a1 ∧ a1 < 13
  · obtain ⟨F, hF⟩ := s_at hI
    obtain ⟨sW, sF, eK, eL, eP, eN⟩ := Sea_ok hI a1.toNat
    have ca := ca_at hF (s := a1) (by omega)
    obtain ⟨r, e, r1, r2⟩ := lp (body := sf_kinds_b1 a1) (s0 := (0, 0, h)) (Q := fun r => r.1 = sm (h 9 1) (fun k => if bs (gwS (Sea h a1.toNat) k) = 0 then 0 else 1) ∧ Hm h F r.2) (fun i s => s.1 = sm i (fun k => if bs (gwS (Sea h a1.toNat) k) = 0 then 0 else 1) ∧ s.2.1 = i ∧ Hm h F s.2.2) (h 9 1) (by omega) (by omega) ⟨rfl, rfl, Or.inl rfl⟩ (fun i s a b hi => by
      obtain ⟨v, c, m⟩ := s
      obtain ⟨q1, q2, q3⟩ := hi
      dsimp only at q1 q2 q3
      subst q1
      subst q2
      have e1 := Hm_at hF q3 (s := a1) (by omega)
      have e2 := c_growers sW ca (k := c) (by omega)
      have m9 := Hm_9 hF q3
      refine ⟨(sm (c + 1) (fun k => if bs (gwS (Sea h a1.toNat) k) = 0 then 0 else 1), c + 1, F), ?_, rfl, rfl, Or.inr rfl⟩
      rw [sm_succ a]
      simp (disch := omega) only [sf_kinds_b1, m9, wr_id, if_pos, e1, bd_some, ch_s, e2, wr_bs]
      by_cases z : bs (gwS (Sea h a1.toNat) c) = 0
      · simp only [z, if_true, Int.add_zero]
      · simp only [z, if_false]) (fun s hi => by
      obtain ⟨v, c, m⟩ := s
      obtain ⟨q1, q2, q3⟩ := hi
      dsimp only at q1 q2 q3
      subst q2
      have m9 := Hm_9 hF q3
      exact ⟨(v, m), by simp (disch := omega) only [sf_kinds_b1, m9, wr_id, if_neg], q1, q3⟩)
    obtain ⟨v, m⟩ := r
    dsimp only at r1 r2
    have m0 := Hm_M hI hF r2
    obtain ⟨t, et, kB, kA, mt⟩ := Mf_lays m0 (s := a1) (by omega)
    have c0 := kA.1.1
    have hit := lp_fn (body := md_kinds_b1 t) (s0 := (0, 0)) (fun i => (sm i (fun k => if bs (gwS (Sea h a1.toNat) k) = 0 then 0 else 1), i)) (h 9 1) v (by omega) (by omega) rfl (fun i a b => by
      have e2 := m_growers sW sF kA (k := i) (by omega)
      simp (disch := omega) only [md_kinds_b1, md_kindsAll, c0, eK, wr_id, if_pos, bd_some, e2, wr_bs, sm_succ a]) (by
      simp (disch := omega) only [md_kinds_b1, md_kindsAll, c0, eK, wr_id, if_neg, bd_some]
      rw [r1])
    refine ⟨v, m, v, t, ?_, ?_, rfl, mt.1⟩
    · simp (disch := omega) only [sf_kinds, c_isS hI w1, bd_some, bI_t, if_neg, wr_id, e]
    · simp (disch := omega) only [md_kinds, lt_eq, Mf_isT hI m0 w1, bd_some, bI_t, if_neg, wr_id, et, hit]
  · have m0 : Mf h (up h 167 0 0) := Mf_self hI
    refine ⟨-2, h, -2, up h 167 0 0, ?_, ?_, rfl, m0.1⟩
    · simp (disch := omega) only [sf_kinds, c_isS hI w1, bd_some, bI_f, if_pos, if_true, wr_id]
    · simp (disch := omega) only [md_kinds, lt_eq, Mf_isT hI m0 w1, bd_some, bI_f, if_pos, if_true, wr_id]
theorem st_saints : St_saints INV := by
  intro h hI a1 w1
  have b1 := in32 w1
  obtain ⟨_, lK, lL, _, _, lP, _⟩ := INV_l hI
  by_cases g : h 9 0 = 1 ∧ 0 ≤ a1 ∧ a1 < 13
  · obtain ⟨F, hF⟩ := s_at hI
    obtain ⟨sW, sF, eK, eL, eP, eN⟩ := Sea_ok hI a1.toNat
    have ca := ca_at hF (s := a1) (by omega)
    obtain ⟨r, e, r1, r2⟩ := lp (body := sf_saints_b1 a1) (s0 := (0, 0, h)) (Q := fun r => r.1 = bs (upto (h 9 5) (fun p => decide (bs (opS (Sea h a1.toNat) p) = 0))) ∧ Hm h F r.2) (fun i s => s.1 = bs (upto i (fun p => decide (bs (opS (Sea h a1.toNat) p) = 0))) ∧ s.2.1 = i ∧ Hm h F s.2.2) (h 9 5) (by omega) (by omega) ⟨(upto0 _).symm, rfl, Or.inl rfl⟩ (fun i s a b hi => by
      obtain ⟨v, c, m⟩ := s
      obtain ⟨q1, q2, q3⟩ := hi
      dsimp only at q1 q2 q3
      subst q1
      subst q2
      have e1 := Hm_at hF q3 (s := a1) (by omega)
      have e2 := ca.2.1 c a (by omega)
      have m9 := Hm_9 hF q3
      refine ⟨(bs (upto (c + 1) (fun p => decide (bs (opS (Sea h a1.toNat) p) = 0))), c + 1, F), ?_, rfl, rfl, Or.inr rfl⟩
      rw [← bs_up _ a (show c < 6 by omega)]
      simp (disch := omega) only [sf_saints_b1, m9, wr_id, if_pos, e1, bd_some, ch_s, chk_t, e2, wr_bs, decide_eq_true_eq]) (fun s hi => by
      obtain ⟨v, c, m⟩ := s
      obtain ⟨q1, q2, q3⟩ := hi
      dsimp only at q1 q2 q3
      subst q2
      have m9 := Hm_9 hF q3
      exact ⟨(v, m), by simp (disch := omega) only [sf_saints_b1, m9, wr_id, if_neg], q1, q3⟩)
    obtain ⟨v, m⟩ := r
    dsimp only at r1 r2
    have m0 := Hm_M hI hF r2
    obtain ⟨t, et, kB, kA, mt⟩ := Mf_lays m0 (s := a1) (by omega)
    have c2 := kA.1.2.2.1
    have hit := lp_fn (body := md_saints_b1 t) (s0 := (0, 0)) (fun i => (bs (upto i (fun p => decide (bs (opS (Sea h a1.toNat) p) = 0))), i)) (h 9 5) v (by omega) (by omega) (by rw [upto0]) (fun i a b => by
      have e2 := m_open sW kA.1 (p := i) (by omega)
      simp (disch := omega) only [md_saints_b1, md_people, c2, eP, wr_id, if_pos, bd_some, e2, wr_bs, ← bs_up' _ a (show i < 6 by omega), decide_eq_true_eq]) (by
      simp (disch := omega) only [md_saints_b1, md_people, c2, eP, wr_id, if_neg, bd_some]
      rw [r1])
    refine ⟨v, m, v, t, ?_, ?_, rfl, mt.1⟩
    · simp (disch := omega) only [sf_saints, c_isS hI w1, bd_some, bI_t, if_neg, wr_id, e]
    · simp (disch := omega) only [md_saints, lt_eq, Mf_isT hI m0 w1, bd_some, bI_t, if_neg, wr_id, et, hit]
  · have m0 : Mf h (up h 167 0 0) := Mf_self hI
    refine ⟨-2, h, -2, up h 167 0 0, ?_, ?_, rfl, m0.1⟩
    · simp (disch := omega) only [sf_saints, c_isS hI w1, bd_some, bI_f, if_pos, if_true, wr_id]
    · simp (disch := omega) only [md_saints, lt_eq, Mf_isT hI m0 w1, bd_some, bI_f, if_pos, if_true, wr_id]
theorem st_life : St_life INV := by
  intro h hI a1 w1
  have b1 := in32 w1
  obtain ⟨_, lK, lL, _, _, lP, _⟩ := INV_l hI
  by_cases g : 0 ≤ a1 ∧ a1 < h 9 5
  · obtain ⟨F, hF⟩ := s_at hI
    obtain ⟨r, e, r1, r2⟩ := lp (body := sf_life_b1 a1) (s0 := (0, 0, h)) (Q := fun r => r.1 = sm 13 (fun s => shS (Sea h s.toNat) a1) ∧ Hm h F r.2) (fun i s => s.1 = sm i (fun s => shS (Sea h s.toNat) a1) ∧ s.2.1 = i ∧ Hm h F s.2.2) 13 (by omega) (by omega) ⟨rfl, rfl, Or.inl rfl⟩ (fun i s a b hi => by
      obtain ⟨v, c, m⟩ := s
      obtain ⟨q1, q2, q3⟩ := hi
      dsimp only at q1 q2 q3
      subst q1
      subst q2
      obtain ⟨sW, sF, eK, eL, eP, eN⟩ := Sea_ok hI c.toNat
      have e1 := Hm_at hF q3 (s := c) (by omega)
      have e2 := c_share (ca_at hF (s := c) (by omega)) (by omega) (p := a1) (by omega)
      refine ⟨(sm (c + 1) (fun s => shS (Sea h s.toNat) a1), c + 1, F), ?_, rfl, rfl, Or.inr rfl⟩
      rw [sm_succ a]
      simp (disch := omega) only [sf_life_b1, wr_id, if_pos, e1, bd_some, ch_s, e2]) (fun s hi => by
      obtain ⟨v, c, m⟩ := s
      obtain ⟨q1, q2, q3⟩ := hi
      dsimp only at q1 q2 q3
      subst q2
      exact ⟨(v, m), by simp (disch := omega) only [sf_life_b1, wr_id, if_neg], q1, q3⟩)
    obtain ⟨v, m⟩ := r
    dsimp only at r1 r2
    have m0 := Hm_M hI hF r2
    have p1 := Mf_isP hI m0 w1
    rw [w1] at p1
    obtain ⟨t, et, kB, kA, mt⟩ := Mf_first m0
    obtain ⟨sW, sF, eK, eL, eP, eN⟩ := Sea_ok hI 0
    have e0 := m_has sW sF kA (p := a1) (by omega)
    obtain ⟨r, e', z1, z2⟩ := lp (body := md_life_b1 a1) (s0 := (shS (Sea h 0) a1, 0, t)) (Q := fun r => r.1 = sm 13 (fun s => shS (Sea h s.toNat) a1) ∧ Mf h r.2) (fun i s => s.1 = sm (i + 1) (fun s => shS (Sea h s.toNat) a1) ∧ s.2.1 = i ∧ MB s.2.2 (Sea h i.toNat) ∧ MA s.2.2 (Sea h i.toNat) ∧ Mf h s.2.2) 12 (by omega) (by omega) ⟨by rw [sm_succ (by omega), sm_zero, Int.zero_add]; rfl, rfl, kB, kA, mt⟩ (fun i s a b hi => by
      obtain ⟨v, c, m⟩ := s
      obtain ⟨q1, q2, q3, q4, q5⟩ := hi
      dsimp only at q1 q2 q3 q4 q5
      subst q1
      subst q2
      obtain ⟨sW, sF, eK, eL, eP, eN⟩ := Sea_ok hI (c + 1).toNat
      obtain ⟨u, e1, u1, u2, u3⟩ := Mf_passI q5 (s := c) (by omega) q3 q4
      have e2 := m_has sW sF u2 (p := a1) (by omega)
      refine ⟨(sm (c + 1 + 1) (fun s => shS (Sea h s.toNat) a1), c + 1, u), ?_, rfl, rfl, u1, u2, u3⟩
      rw [sm_succ (show 0 ≤ c + 1 by omega)]
      simp (disch := omega) only [md_life_b1, wr_id, if_pos, e1, bd_some, e2]) (fun s hi => by
      obtain ⟨v, c, m⟩ := s
      obtain ⟨q1, q2, q3, q4, q5⟩ := hi
      dsimp only at q1 q2 q3 q4 q5
      subst q2
      exact ⟨(v, m), by simp (disch := omega) only [md_life_b1, wr_id, if_neg], q1, q5⟩)
    obtain ⟨v', m'⟩ := r
    dsimp only at z1 z2
    refine ⟨v, m, v', m', ?_, ?_, by rw [r1, z1], z2.1⟩
    · simp (disch := omega) only [sf_life, c_isP hI w1, bd_some, bI_t, if_neg, wr_id, e]
    · simp (disch := omega) only [md_life, lt_eq, w1, p1, bd_some, bI_t, if_neg, wr_id, et, e0, e']
  · have m0 : Mf h (up h 167 0 0) := Mf_self hI
    have p1 := Mf_isP hI m0 w1
    rw [w1] at p1
    refine ⟨-1000, h, -1000, up h 167 0 0, ?_, ?_, rfl, m0.1⟩
    · simp (disch := omega) only [sf_life, c_isP hI w1, bd_some, bI_f, if_pos, if_true, wr_id]
    · simp (disch := omega) only [md_life, lt_eq, w1, p1, bd_some, bI_f, if_pos, if_true, wr_id]
theorem st_eats : St_eats INV := by
  intro h hI a1 a2 w1 w2
  have b1 := in32 w1
  have b2 := in32 w2
  obtain ⟨_, lK, lL, _, _, lP, _⟩ := INV_l hI
  by_cases g : 0 ≤ a1 ∧ a1 < h 9 5
  · by_cases g2 : 0 ≤ a2 ∧ a2 < h 9 1
    · obtain ⟨F, hF⟩ := s_at hI
      obtain ⟨r, e, r1, r2⟩ := lp (body := sf_eats_b1 a1 a2) (s0 := (0, 0, h)) (Q := fun r => r.1 = sm 13 (fun s => if grS (Sea h s.toNat) a1 = a2 then 1 else 0) ∧ Hm h F r.2) (fun i s => s.1 = sm i (fun s => if grS (Sea h s.toNat) a1 = a2 then 1 else 0) ∧ s.2.1 = i ∧ Hm h F s.2.2) 13 (by omega) (by omega) ⟨rfl, rfl, Or.inl rfl⟩ (fun i s a b hi => by
        obtain ⟨v, c, m⟩ := s
        obtain ⟨q1, q2, q3⟩ := hi
        dsimp only at q1 q2 q3
        subst q1
        subst q2
        obtain ⟨sW, sF, eK, eL, eP, eN⟩ := Sea_ok hI c.toNat
        have e1 := Hm_at hF q3 (s := c) (by omega)
        have e2 := (ca_at hF (s := c) (by omega)).2.2.2.1 a1 g.1 (by omega)
        have hg := grS_in (Sea h c.toNat) a1
        refine ⟨(sm (c + 1) (fun s => if grS (Sea h s.toNat) a1 = a2 then 1 else 0), c + 1, F), ?_, rfl, rfl, Or.inr rfl⟩
        rw [sm_succ a]
        by_cases z : grS (Sea h c.toNat) a1 = a2
        · rw [if_pos z]
          simp (disch := omega) only [sf_eats_b1, wr_id, if_pos, e1, bd_some, ch_s, chk_t, e2]
        · rw [if_neg z]
          simp (disch := omega) only [sf_eats_b1, wr_id, if_pos, if_neg, e1, bd_some, ch_s, chk_t, e2, Int.add_zero]) (fun s hi => by
        obtain ⟨v, c, m⟩ := s
        obtain ⟨q1, q2, q3⟩ := hi
        dsimp only at q1 q2 q3
        subst q2
        exact ⟨(v, m), by simp (disch := omega) only [sf_eats_b1, wr_id, if_neg], q1, q3⟩)
      obtain ⟨v, m⟩ := r
      dsimp only at r1 r2
      have m0 := Hm_M hI hF r2
      have p1 := Mf_isP hI m0 w1
      have p2 := Mf_isK hI m0 w2
      rw [w1] at p1
      rw [w2] at p2
      obtain ⟨t, et, kB, kA, mt⟩ := Mf_first m0
      obtain ⟨r, e', z1, z2⟩ := lp (body := md_eats_b1 a1 a2) (s0 := (0, 0, t)) (Q := fun r => r.1 = sm 13 (fun s => if grS (Sea h s.toNat) a1 = a2 then 1 else 0) ∧ Mf h r.2) (fun i s => s.1 = sm i (fun s => if grS (Sea h s.toNat) a1 = a2 then 1 else 0) ∧ s.2.1 = i ∧ MB s.2.2 (Sea h i.toNat) ∧ MA s.2.2 (Sea h i.toNat) ∧ Mf h s.2.2) 13 (by omega) (by omega) ⟨rfl, rfl, kB, kA, mt⟩ (fun i s a b hi => by
        obtain ⟨v, c, m⟩ := s
        obtain ⟨q1, q2, q3, q4, q5⟩ := hi
        dsimp only at q1 q2 q3 q4 q5
        subst q1
        subst q2
        obtain ⟨sW, sF, eK, eL, eP, eN⟩ := Sea_ok hI c.toNat
        obtain ⟨u, e1, u1, u2, u3⟩ := Mf_passI q5 (s := c) (by omega) q3 q4
        have e2 := MA_g sF q4 (p := a1) (by omega)
        have hg := grS_in (Sea h c.toNat) a1
        refine ⟨(sm (c + 1) (fun s => if grS (Sea h s.toNat) a1 = a2 then 1 else 0), c + 1, u), ?_, rfl, rfl, u1, u2, u3⟩
        rw [sm_succ a]
        simp (disch := omega) only [md_eats_b1, wr_id, if_pos, e1, bd_some, chk_t, e2]) (fun s hi => by
        obtain ⟨v, c, m⟩ := s
        obtain ⟨q1, q2, q3, q4, q5⟩ := hi
        dsimp only at q1 q2 q3 q4 q5
        subst q2
        exact ⟨(v, m), by simp (disch := omega) only [md_eats_b1, wr_id, if_neg], q1, q5⟩)
      obtain ⟨v', m'⟩ := r
      dsimp only at z1 z2
      refine ⟨v, m, v', m', ?_, ?_, by rw [r1, z1], z2.1⟩
      · simp (disch := omega) only [sf_eats, c_isP hI w1, c_isK hI w2, bd_some, bI_t, if_neg, wr_id, e]
      · simp (disch := omega) only [md_eats, lt_eq, w1, w2, p1, p2, bd_some, bI_t, if_neg, wr_id, et, e']
    · have m0 : Mf h (up h 167 0 0) := Mf_self hI
      have p1 := Mf_isP hI m0 w1
      have p2 := Mf_isK hI m0 w2
      rw [w1] at p1
      rw [w2] at p2
      refine ⟨-2, h, -2, up h 167 0 0, ?_, ?_, rfl, m0.1⟩
      · simp (disch := omega) only [sf_eats, c_isP hI w1, c_isK hI w2, bd_some, bI_t, bI_f, if_neg, if_pos, if_true, wr_id]
      · simp (disch := omega) only [md_eats, lt_eq, w1, w2, p1, p2, bd_some, bI_t, bI_f, if_neg, if_pos, if_true, wr_id]
  · have m0 : Mf h (up h 167 0 0) := Mf_self hI
    have p1 := Mf_isP hI m0 w1
    rw [w1] at p1
    refine ⟨-2, h, -2, up h 167 0 0, ?_, ?_, rfl, m0.1⟩
    · simp (disch := omega) only [sf_eats, c_isP hI w1, bd_some, bI_f, if_pos, if_true, wr_id]
    · simp (disch := omega) only [md_eats, lt_eq, w1, p1, bd_some, bI_f, if_pos, if_true, wr_id]
/-! the first of them -/
theorem th_cond {h : Hp} (hI : INV h) : (wr (h 9 0) = 0) = ¬ (h 9 0 = 1) := by
  rcases (INV_l hI).1 with z | z
  · rw [z]; simp; rfl
  · rw [z]; simp; decide
theorem st_fails : St_fails INV := by
  intro h hI
  obtain ⟨_, lK, lL, _, _, lP, _⟩ := INV_l hI
  have tc := th_cond hI
  by_cases g : h 9 0 = 1
  · obtain ⟨F, hF⟩ := s_at hI
    obtain ⟨r, e, r1⟩ := lp_ex (body := sf_fails_b1) (s0 := (0, h)) (Q := fun r => (∃ m, r = .inl m ∧ Hm h F m ∧ Fst (fun s => decide (bs (gwS (Sea h s.toNat) (-1)) ≠ 0)) 0 13 (-1)) ∨ (∃ s m, r = .inr (s, m) ∧ Hm h F m ∧ Fst (fun s => decide (bs (gwS (Sea h s.toNat) (-1)) ≠ 0)) 0 13 s)) (fun i s => s.1 = i ∧ Hm h F s.2 ∧ ∀ j, 0 ≤ j → j < i → decide (bs (gwS (Sea h j.toNat) (-1)) ≠ 0) = false) 13 (by omega) (by omega) ⟨rfl, Or.inl rfl, fun j a b => by omega⟩ (fun i s a b hi => by
      obtain ⟨c, m⟩ := s
      obtain ⟨q1, q2, q3⟩ := hi
      dsimp only at q1 q2 q3
      subst q1
      obtain ⟨sW, sF, eK, eL, eP, eN⟩ := Sea_ok hI c.toNat
      have e1 := Hm_at hF q2 (s := c) (by omega)
      have e2 := c_growers sW (ca_at hF (s := c) (by omega)) (k := -1) (by omega)
      by_cases z : bs (gwS (Sea h c.toNat) (-1)) = 0
      · refine Or.inl ⟨(c + 1, F), ?_, rfl, Or.inr rfl, ?_⟩
        · simp (disch := omega) only [sf_fails_b1, wr_id, if_pos, if_true, e1, bd_some, ch_s, e2, z]
        · intro j h1 h2
          by_cases ej : j = c
          · rw [ej]; simp [z]
          · exact q3 j h1 (by omega)
      · refine Or.inr ⟨.inr (c, F), ?_, Or.inr ⟨c, F, rfl, Or.inr rfl, Or.inl ⟨a, b, by simp [z], q3⟩⟩⟩
        simp (disch := omega) only [sf_fails_b1, wr_id, if_pos, if_false, e1, bd_some, ch_s, e2, wr_bs, z]) (fun s hi => by
      obtain ⟨c, m⟩ := s
      obtain ⟨q1, q2, q3⟩ := hi
      dsimp only at q1 q2 q3
      subst q1
      exact ⟨.inl m, by simp (disch := omega) only [sf_fails_b1, wr_id, if_neg], Or.inl ⟨m, rfl, q2, Or.inr ⟨rfl, q3⟩⟩⟩)
    obtain ⟨v, m, ec, r2, r3⟩ : ∃ v m, sf_fails h = some (v, m) ∧ Hm h F m ∧ Fst (fun s => decide (bs (gwS (Sea h s.toNat) (-1)) ≠ 0)) 0 13 v := by
      unfold sf_fails
      rw [if_neg (by rw [tc]; simp [g]), e, bd_some]
      rcases r1 with ⟨m, z1, z2, z3⟩ | ⟨s, m, z1, z2, z3⟩
      · exact ⟨-1, m, by rw [z1], z2, z3⟩
      · exact ⟨s, m, by rw [z1], z2, z3⟩
    have m0 := Hm_M hI hF r2
    obtain ⟨t, et, kB, kA, mt⟩ := Mf_first m0
    obtain ⟨r, e', z0⟩ := lp_ex (body := md_fails__b1) (s0 := (0, t)) (Q := fun r => (∃ m, r = .inl m ∧ Mf h m ∧ Fst (fun s => decide (bs (gwS (Sea h s.toNat) (-1)) ≠ 0)) 0 13 (-1)) ∨ (∃ s m, r = .inr (s, m) ∧ Mf h m ∧ Fst (fun s => decide (bs (gwS (Sea h s.toNat) (-1)) ≠ 0)) 0 13 s)) (fun i s => s.1 = i ∧ MB s.2 (Sea h i.toNat) ∧ MA s.2 (Sea h i.toNat) ∧ Mf h s.2 ∧ ∀ j, 0 ≤ j → j < i → decide (bs (gwS (Sea h j.toNat) (-1)) ≠ 0) = false) 13 (by omega) (by omega) ⟨rfl, kB, kA, mt, fun j a b => by omega⟩ (fun i s a b hi => by
      obtain ⟨c, m⟩ := s
      obtain ⟨q1, q2, q3, q4, q5⟩ := hi
      dsimp only at q1 q2 q3 q4 q5
      subst q1
      obtain ⟨sW, sF, eK, eL, eP, eN⟩ := Sea_ok hI c.toNat
      have e2 := m_bare sW q3
      rw [brS_full sW sF] at e2
      by_cases z : bs (gwS (Sea h c.toNat) (-1)) = 0
      · obtain ⟨u, e1, u1, u2, u3⟩ := Mf_passI q4 (s := c) (by omega) q2 q3
        refine Or.inl ⟨(c + 1, u), ?_, rfl, u1, u2, u3, ?_⟩
        · simp (disch := omega) only [md_fails__b1, wr_id, if_pos, if_true, e1, bd_some, e2, z]
        · intro j h1 h2
          by_cases ej : j = c
          · rw [ej]; simp [z]
          · exact q5 j h1 (by omega)
      · refine Or.inr ⟨.inr (c, m), ?_, Or.inr ⟨c, m, rfl, q4, Or.inl ⟨a, b, by simp [z], q5⟩⟩⟩
        simp (disch := omega) only [md_fails__b1, wr_id, if_pos, if_false, bd_some, e2, wr_bs, z]) (fun s hi => by
      obtain ⟨c, m⟩ := s
      obtain ⟨q1, q2, q3, q4, q5⟩ := hi
      dsimp only at q1 q2 q3 q4 q5
      subst q1
      exact ⟨.inl m, by simp (disch := omega) only [md_fails__b1, wr_id, if_neg], Or.inl ⟨m, rfl, q4, Or.inr ⟨rfl, q5⟩⟩⟩)
    have em := Mf_isF hI m0
    rw [bI_t g] at em
    rcases z0 with ⟨m', y1, y2, y3⟩ | ⟨s, m', y1, y2, y3⟩
    · refine ⟨v, m, -1, m', ec, ?_, by rw [Fst_u (by omega) r3 y3], y2.1⟩
      unfold md_fails_
      simp (disch := omega) only [lt_eq, em, bd_some, wr_id, if_neg, et, e', y1]
    · refine ⟨v, m, s, m', ec, ?_, by rw [Fst_u (by omega) r3 y3], y2.1⟩
      unfold md_fails_
      simp (disch := omega) only [lt_eq, em, bd_some, wr_id, if_neg, et, e', y1]
  · have m0 : Mf h (up h 167 0 0) := Mf_self hI
    refine ⟨-2, h, -2, up h 167 0 0, ?_, ?_, rfl, m0.1⟩
    · unfold sf_fails; rw [if_pos (by rw [tc]; exact g)]
    · simp (disch := omega) only [md_fails_, lt_eq, Mf_isF hI m0, bd_some, bI_f, if_pos, if_true, wr_id]
