/-! Layer 2: calls of one season -/
theorem ch_s {α : Type} {s : Int} (h : 0 ≤ s ∧ s < 13) (X : Option α) : chk (sh (63 + 8 * s.toNat) = (13, 10)) X = X := chk_t (sh_a6 h)
theorem Sea_ok {h : Hp} (hI : INV h) (s : Nat) : WF (Sea h s) ∧ Full (Sea h s) ∧ sK (Sea h s) = h 9 1 ∧ sL (Sea h s) = h 9 2 ∧ sP (Sea h s) = h 9 5 ∧ sN (Sea h s) = h 9 5 := seN_ok (INV_l hI) s
theorem c_holds (h : Hp) (c : Int → Bool) {k : Int} (hk : 0 ≤ k ∧ k < 6) : sf_holds h (bs c) k = some (bt (c k) 1) := by
  unfold sf_holds
  rw [wr_iand, bs_bit c k hk.1 hk.2]
  cases c k <;> rfl
theorem m_isBit (h : Hp) (c : Int → Bool) {k : Int} (hk : 0 ≤ k ∧ k < 6) : md_isBit h (bs c) k = some (bt (c k) 1) := by
  unfold md_isBit
  rw [wr_iand, bs_bit c k hk.1 hk.2]
  cases c k <;> rfl
theorem wr_bt (c : Bool) : wr (bt c 1) = bt c 1 := by cases c <;> rfl
theorem bt0 (c : Bool) : (bt c 1 = 0) = (c = false) := by cases c <;> simp [bt]
theorem m_loved {t : Hp} {S : Sn} (hW : WF S) (hM : MP t S) {p : Int} (hp : 0 ≤ p ∧ p < sP S) : iter FU (md_loves_b1 p t) (0, 0) = some (bs (lovS S p)) := by
  have hM' := hM
  obtain ⟨hK, hL, hP, hN, hT, hR⟩ := hW
  obtain ⟨c0, c1, c2, c3, cT, cR, cH⟩ := hM'
  exact lp_fn (body := md_loves_b1 p t) (s0 := (0, 0)) (fun i => (bs (upto i (fun k => decide (0 < sT S (p * 5 + k)))), i)) (sK S) (bs (lovS S p)) (by omega) (by omega) (by rw [upto0]) (fun i a b => by
    have hT' := hT (p * 5 + i)
    simp (disch := omega) only [md_loves_b1, md_kindsAll, bd_some, c0, wr_id, if_pos, m_ta hM hP.2 hp (show 0 ≤ i ∧ i < 5 by omega), ← bs_up' _ a (show i < 6 by omega), decide_eq_true_eq]) (by
    simp (disch := omega) only [md_loves_b1, md_kindsAll, bd_some, c0, wr_id, if_neg]
    rfl)
theorem st_hates : St_hates INV := by
  intro h hI a1 a2 w1 w2
  have b1 := in32 w1
  have b2 := in32 w2
  obtain ⟨_, lK, lL, _, _, lP, _⟩ := INV_l hI
  by_cases g1 : 0 ≤ a1 ∧ a1 < h 9 5
  · by_cases g2 : 0 ≤ a2 ∧ a2 < 13
    · obtain ⟨F, hF⟩ := s_at hI
      have m0 : Mf h (up F 167 0 0) := Mf_0 hF (by omega) (by omega) (by omega)
      obtain ⟨t, et, kB, kA, mt⟩ := Mf_lays m0 (s := a2) (by omega)
      obtain ⟨sW, sF, eK, eL, eP, eN⟩ := Sea_ok hI a2.toNat
      have fs := (hF.2.2.1 a2 g2.1 g2.2).1
      have ca := hF.2.2.2.1 a2.toNat (by omega)
      have p1 := Mf_isP hI m0 w1
      rw [w1] at p1
      refine ⟨bs (hatS (Sea h a2.toNat) a1), F, bs (hatS (Sea h a2.toNat) a1), t, ?_, ?_, ?_, mt.1⟩
      · have q := c_hated sW ca.1 (p := a1) (by omega)
        simp (disch := omega) only [sf_hates, c_isPS hI w1 w2, fs, ch_s, w1, w2, q, bd_some, bI_wr, bI_t, bI_f, if_neg, if_pos, if_true, if_false, wr_id, chk_t]
      · have q := m_hates sW kA.1 (p := a1) (by omega)
        simp (disch := omega) only [md_hates, lt_eq, p1, Mf_isS w2, et, w1, w2, q, bd_some, bI_wr, bI_t, bI_f, if_neg, if_pos, if_true, if_false, wr_id, chk_t]
      · rfl
    · have m0 : Mf h (up h 167 0 0) := Mf_self hI
      have p1 := Mf_isP hI m0 w1
      rw [w1] at p1
      refine ⟨-2, h, -2, up h 167 0 0, ?_, ?_, rfl, m0.1⟩
      · simp (disch := omega) only [sf_hates, c_isPS hI w1 w2, bd_some, bI_wr, bI_t, bI_f, if_neg, if_pos, if_true, if_false, wr_id, chk_t]
      · simp (disch := omega) only [md_hates, lt_eq, p1, Mf_isS w2, w1, w2, bd_some, bI_wr, bI_t, bI_f, if_neg, if_pos, if_true, if_false, wr_id, chk_t]
  · have m0 : Mf h (up h 167 0 0) := Mf_self hI
    have p1 := Mf_isP hI m0 w1
    rw [w1] at p1
    refine ⟨-2, h, -2, up h 167 0 0, ?_, ?_, rfl, m0.1⟩
    · simp (disch := omega) only [sf_hates, c_isPS hI w1 w2, bd_some, bI_wr, bI_t, bI_f, if_neg, if_pos, if_true, if_false, wr_id, chk_t]
    · simp (disch := omega) only [md_hates, lt_eq, p1, w1, bd_some, bI_wr, bI_t, bI_f, if_neg, if_pos, if_true, if_false, wr_id, chk_t]
theorem st_open : St_open INV := by
  intro h hI a1 a2 w1 w2
  have b1 := in32 w1
  have b2 := in32 w2
  obtain ⟨_, lK, lL, _, _, lP, _⟩ := INV_l hI
  by_cases g1 : 0 ≤ a1 ∧ a1 < h 9 5
  · by_cases g2 : 0 ≤ a2 ∧ a2 < 13
    · obtain ⟨F, hF⟩ := s_at hI
      have m0 : Mf h (up F 167 0 0) := Mf_0 hF (by omega) (by omega) (by omega)
      obtain ⟨t, et, kB, kA, mt⟩ := Mf_lays m0 (s := a2) (by omega)
      obtain ⟨sW, sF, eK, eL, eP, eN⟩ := Sea_ok hI a2.toNat
      have fs := (hF.2.2.1 a2 g2.1 g2.2).1
      have ca := hF.2.2.2.1 a2.toNat (by omega)
      have p1 := Mf_isP hI m0 w1
      rw [w1] at p1
      refine ⟨bs (opS (Sea h a2.toNat) a1), F, bs (opS (Sea h a2.toNat) a1), t, ?_, ?_, ?_, mt.1⟩
      · have q := ca.2.1 a1 g1.1 (by omega)
        simp (disch := omega) only [sf_open, c_isPS hI w1 w2, fs, ch_s, w1, w2, q, bd_some, bI_wr, bI_t, bI_f, if_neg, if_pos, if_true, if_false, wr_id, chk_t]
      · have q := m_open sW kA.1 (p := a1) (by omega)
        simp (disch := omega) only [md_open, lt_eq, p1, Mf_isS w2, et, w1, w2, q, bd_some, bI_wr, bI_t, bI_f, if_neg, if_pos, if_true, if_false, wr_id, chk_t]
      · rfl
    · have m0 : Mf h (up h 167 0 0) := Mf_self hI
      have p1 := Mf_isP hI m0 w1
      rw [w1] at p1
      refine ⟨-2, h, -2, up h 167 0 0, ?_, ?_, rfl, m0.1⟩
      · simp (disch := omega) only [sf_open, c_isPS hI w1 w2, bd_some, bI_wr, bI_t, bI_f, if_neg, if_pos, if_true, if_false, wr_id, chk_t]
      · simp (disch := omega) only [md_open, lt_eq, p1, Mf_isS w2, w1, w2, bd_some, bI_wr, bI_t, bI_f, if_neg, if_pos, if_true, if_false, wr_id, chk_t]
  · have m0 : Mf h (up h 167 0 0) := Mf_self hI
    have p1 := Mf_isP hI m0 w1
    rw [w1] at p1
    refine ⟨-2, h, -2, up h 167 0 0, ?_, ?_, rfl, m0.1⟩
    · simp (disch := omega) only [sf_open, c_isPS hI w1 w2, bd_some, bI_wr, bI_t, bI_f, if_neg, if_pos, if_true, if_false, wr_id, chk_t]
    · simp (disch := omega) only [md_open, lt_eq, p1, w1, bd_some, bI_wr, bI_t, bI_f, if_neg, if_pos, if_true, if_false, wr_id, chk_t]
theorem st_on : St_on INV := by
  intro h hI a1 a2 w1 w2
  have b1 := in32 w1
  have b2 := in32 w2
  obtain ⟨_, lK, lL, _, _, lP, _⟩ := INV_l hI
  by_cases g1 : 0 ≤ a1 ∧ a1 < h 9 5
  · by_cases g2 : 0 ≤ a2 ∧ a2 < 13
    · obtain ⟨F, hF⟩ := s_at hI
      have m0 : Mf h (up F 167 0 0) := Mf_0 hF (by omega) (by omega) (by omega)
      obtain ⟨t, et, kB, kA, mt⟩ := Mf_lays m0 (s := a2) (by omega)
      obtain ⟨sW, sF, eK, eL, eP, eN⟩ := Sea_ok hI a2.toNat
      have fs := (hF.2.2.1 a2 g2.1 g2.2).1
      have ca := hF.2.2.2.1 a2.toNat (by omega)
      have p1 := Mf_isP hI m0 w1
      rw [w1] at p1
      refine ⟨sR (Sea h a2.toNat) a1, F, sR (Sea h a2.toNat) a1, t, ?_, ?_, ?_, mt.1⟩
      · have q := ca.1.2.2.2.2.1 a1 g1.1 (by omega)
        simp (disch := omega) only [sf_on, c_isPS hI w1 w2, fs, ch_s, w1, w2, q, bd_some, bI_wr, bI_t, bI_f, if_neg, if_pos, if_true, if_false, wr_id, chk_t]
      · have q := (kB.2.2.2.2.2 a1 g1.1 (by omega)).1
        simp (disch := omega) only [md_on, lt_eq, p1, Mf_isS w2, et, w1, w2, q, bd_some, bI_wr, bI_t, bI_f, if_neg, if_pos, if_true, if_false, wr_id, chk_t]
      · rfl
    · have m0 : Mf h (up h 167 0 0) := Mf_self hI
      have p1 := Mf_isP hI m0 w1
      rw [w1] at p1
      refine ⟨-2, h, -2, up h 167 0 0, ?_, ?_, rfl, m0.1⟩
      · simp (disch := omega) only [sf_on, c_isPS hI w1 w2, bd_some, bI_wr, bI_t, bI_f, if_neg, if_pos, if_true, if_false, wr_id, chk_t]
      · simp (disch := omega) only [md_on, lt_eq, p1, Mf_isS w2, w1, w2, bd_some, bI_wr, bI_t, bI_f, if_neg, if_pos, if_true, if_false, wr_id, chk_t]
  · have m0 : Mf h (up h 167 0 0) := Mf_self hI
    have p1 := Mf_isP hI m0 w1
    rw [w1] at p1
    refine ⟨-2, h, -2, up h 167 0 0, ?_, ?_, rfl, m0.1⟩
    · simp (disch := omega) only [sf_on, c_isPS hI w1 w2, bd_some, bI_wr, bI_t, bI_f, if_neg, if_pos, if_true, if_false, wr_id, chk_t]
    · simp (disch := omega) only [md_on, lt_eq, p1, w1, bd_some, bI_wr, bI_t, bI_f, if_neg, if_pos, if_true, if_false, wr_id, chk_t]
theorem st_plot : St_plot INV := by
  intro h hI a1 a2 w1 w2
  have b1 := in32 w1
  have b2 := in32 w2
  obtain ⟨_, lK, lL, _, _, lP, _⟩ := INV_l hI
  by_cases g1 : 0 ≤ a1 ∧ a1 < h 9 5
  · by_cases g2 : 0 ≤ a2 ∧ a2 < 13
    · obtain ⟨F, hF⟩ := s_at hI
      have m0 : Mf h (up F 167 0 0) := Mf_0 hF (by omega) (by omega) (by omega)
      obtain ⟨t, et, kB, kA, mt⟩ := Mf_lays m0 (s := a2) (by omega)
      obtain ⟨sW, sF, eK, eL, eP, eN⟩ := Sea_ok hI a2.toNat
      have fs := (hF.2.2.1 a2 g2.1 g2.2).1
      have ca := hF.2.2.2.1 a2.toNat (by omega)
      have p1 := Mf_isP hI m0 w1
      rw [w1] at p1
      refine ⟨sQ (Sea h a2.toNat) a1, F, sQ (Sea h a2.toNat) a1, t, ?_, ?_, ?_, mt.1⟩
      · have q := c_plot sW sF ca.1 (p := a1) (by omega)
        simp (disch := omega) only [sf_plot, c_isPS hI w1 w2, fs, ch_s, w1, w2, q, bd_some, bI_wr, bI_t, bI_f, if_neg, if_pos, if_true, if_false, wr_id, chk_t]
      · have q := (kB.2.2.2.2.2 a1 g1.1 (by omega)).2.1
        simp (disch := omega) only [md_plot, lt_eq, p1, Mf_isS w2, et, w1, w2, q, bd_some, bI_wr, bI_t, bI_f, if_neg, if_pos, if_true, if_false, wr_id, chk_t]
      · rfl
    · have m0 : Mf h (up h 167 0 0) := Mf_self hI
      have p1 := Mf_isP hI m0 w1
      rw [w1] at p1
      refine ⟨-2, h, -2, up h 167 0 0, ?_, ?_, rfl, m0.1⟩
      · simp (disch := omega) only [sf_plot, c_isPS hI w1 w2, bd_some, bI_wr, bI_t, bI_f, if_neg, if_pos, if_true, if_false, wr_id, chk_t]
      · simp (disch := omega) only [md_plot, lt_eq, p1, Mf_isS w2, w1, w2, bd_some, bI_wr, bI_t, bI_f, if_neg, if_pos, if_true, if_false, wr_id, chk_t]
  · have m0 : Mf h (up h 167 0 0) := Mf_self hI
    have p1 := Mf_isP hI m0 w1
    rw [w1] at p1
    refine ⟨-2, h, -2, up h 167 0 0, ?_, ?_, rfl, m0.1⟩
    · simp (disch := omega) only [sf_plot, c_isPS hI w1 w2, bd_some, bI_wr, bI_t, bI_f, if_neg, if_pos, if_true, if_false, wr_id, chk_t]
    · simp (disch := omega) only [md_plot, lt_eq, p1, w1, bd_some, bI_wr, bI_t, bI_f, if_neg, if_pos, if_true, if_false, wr_id, chk_t]
theorem st_decides : St_decides INV := by
  intro h hI a1 a2 w1 w2
  have b1 := in32 w1
  have b2 := in32 w2
  obtain ⟨_, lK, lL, _, _, lP, _⟩ := INV_l hI
  by_cases g1 : 0 ≤ a1 ∧ a1 < h 9 5
  · by_cases g2 : 0 ≤ a2 ∧ a2 < 13
    · obtain ⟨F, hF⟩ := s_at hI
      have m0 : Mf h (up F 167 0 0) := Mf_0 hF (by omega) (by omega) (by omega)
      obtain ⟨t, et, kB, kA, mt⟩ := Mf_lays m0 (s := a2) (by omega)
      obtain ⟨sW, sF, eK, eL, eP, eN⟩ := Sea_ok hI a2.toNat
      have fs := (hF.2.2.1 a2 g2.1 g2.2).1
      have ca := hF.2.2.2.1 a2.toNat (by omega)
      have p1 := Mf_isP hI m0 w1
      rw [w1] at p1
      refine ⟨dpS (Sea h a2.toNat) a1, F, dpS (Sea h a2.toNat) a1, t, ?_, ?_, ?_, mt.1⟩
      · have q := ca.2.2.1 a1 g1.1 (by omega)
        simp (disch := omega) only [sf_decides, c_isPS hI w1 w2, fs, ch_s, w1, w2, q, bd_some, bI_wr, bI_t, bI_f, if_neg, if_pos, if_true, if_false, wr_id, chk_t]
      · have q := m_decF sW sF kA.1 (p := a1) (by omega)
        simp (disch := omega) only [md_decides, lt_eq, p1, Mf_isS w2, et, w1, w2, q, bd_some, bI_wr, bI_t, bI_f, if_neg, if_pos, if_true, if_false, wr_id, chk_t]
      · rfl
    · have m0 : Mf h (up h 167 0 0) := Mf_self hI
      have p1 := Mf_isP hI m0 w1
      rw [w1] at p1
      refine ⟨-2, h, -2, up h 167 0 0, ?_, ?_, rfl, m0.1⟩
      · simp (disch := omega) only [sf_decides, c_isPS hI w1 w2, bd_some, bI_wr, bI_t, bI_f, if_neg, if_pos, if_true, if_false, wr_id, chk_t]
      · simp (disch := omega) only [md_decides, lt_eq, p1, Mf_isS w2, w1, w2, bd_some, bI_wr, bI_t, bI_f, if_neg, if_pos, if_true, if_false, wr_id, chk_t]
  · have m0 : Mf h (up h 167 0 0) := Mf_self hI
    have p1 := Mf_isP hI m0 w1
    rw [w1] at p1
    refine ⟨-2, h, -2, up h 167 0 0, ?_, ?_, rfl, m0.1⟩
    · simp (disch := omega) only [sf_decides, c_isPS hI w1 w2, bd_some, bI_wr, bI_t, bI_f, if_neg, if_pos, if_true, if_false, wr_id, chk_t]
    · simp (disch := omega) only [md_decides, lt_eq, p1, w1, bd_some, bI_wr, bI_t, bI_f, if_neg, if_pos, if_true, if_false, wr_id, chk_t]
theorem st_may : St_may INV := by
  intro h hI a1 a2 w1 w2
  have b1 := in32 w1
  have b2 := in32 w2
  obtain ⟨_, lK, lL, _, _, lP, _⟩ := INV_l hI
  by_cases g1 : 0 ≤ a1 ∧ a1 < h 9 5
  · by_cases g2 : 0 ≤ a2 ∧ a2 < 13
    · obtain ⟨F, hF⟩ := s_at hI
      have m0 : Mf h (up F 167 0 0) := Mf_0 hF (by omega) (by omega) (by omega)
      obtain ⟨t, et, kB, kA, mt⟩ := Mf_lays m0 (s := a2) (by omega)
      obtain ⟨sW, sF, eK, eL, eP, eN⟩ := Sea_ok hI a2.toNat
      have fs := (hF.2.2.1 a2 g2.1 g2.2).1
      have ca := hF.2.2.2.1 a2.toNat (by omega)
      have p1 := Mf_isP hI m0 w1
      rw [w1] at p1
      refine ⟨bs (alS (Sea h a2.toNat) (dpS (Sea h a2.toNat) a1)), F, bs (alS (Sea h a2.toNat) (dpS (Sea h a2.toNat) a1)), t, ?_, ?_, ?_, mt.1⟩
      · have q := ca.2.2.1 a1 g1.1 (by omega)
        have q2 := c_allowed sW ca.1 ca.2.1 (who := dpS (Sea h a2.toNat) a1) (dpS_in sW sF (p := a1) (by omega))
        simp (disch := omega) only [sf_may, c_isPS hI w1 w2, fs, ch_s, w1, w2, q, q2, bd_some, bI_wr, bI_t, bI_f, if_neg, if_pos, if_true, if_false, wr_id, chk_t]
      · have q := m_mayF sW sF kA.1 (p := a1) (by omega)
        simp (disch := omega) only [md_may, lt_eq, p1, Mf_isS w2, et, w1, w2, q, bd_some, bI_wr, bI_t, bI_f, if_neg, if_pos, if_true, if_false, wr_id, chk_t]
      · rfl
    · have m0 : Mf h (up h 167 0 0) := Mf_self hI
      have p1 := Mf_isP hI m0 w1
      rw [w1] at p1
      refine ⟨-2, h, -2, up h 167 0 0, ?_, ?_, rfl, m0.1⟩
      · simp (disch := omega) only [sf_may, c_isPS hI w1 w2, bd_some, bI_wr, bI_t, bI_f, if_neg, if_pos, if_true, if_false, wr_id, chk_t]
      · simp (disch := omega) only [md_may, lt_eq, p1, Mf_isS w2, w1, w2, bd_some, bI_wr, bI_t, bI_f, if_neg, if_pos, if_true, if_false, wr_id, chk_t]
  · have m0 : Mf h (up h 167 0 0) := Mf_self hI
    have p1 := Mf_isP hI m0 w1
    rw [w1] at p1
    refine ⟨-2, h, -2, up h 167 0 0, ?_, ?_, rfl, m0.1⟩
    · simp (disch := omega) only [sf_may, c_isPS hI w1 w2, bd_some, bI_wr, bI_t, bI_f, if_neg, if_pos, if_true, if_false, wr_id, chk_t]
    · simp (disch := omega) only [md_may, lt_eq, p1, w1, bd_some, bI_wr, bI_t, bI_f, if_neg, if_pos, if_true, if_false, wr_id, chk_t]
theorem st_grows : St_grows INV := by
  intro h hI a1 a2 w1 w2
  have b1 := in32 w1
  have b2 := in32 w2
  obtain ⟨_, lK, lL, _, _, lP, _⟩ := INV_l hI
  by_cases g1 : 0 ≤ a1 ∧ a1 < h 9 5
  · by_cases g2 : 0 ≤ a2 ∧ a2 < 13
    · obtain ⟨F, hF⟩ := s_at hI
      have m0 : Mf h (up F 167 0 0) := Mf_0 hF (by omega) (by omega) (by omega)
      obtain ⟨t, et, kB, kA, mt⟩ := Mf_lays m0 (s := a2) (by omega)
      obtain ⟨sW, sF, eK, eL, eP, eN⟩ := Sea_ok hI a2.toNat
      have fs := (hF.2.2.1 a2 g2.1 g2.2).1
      have ca := hF.2.2.2.1 a2.toNat (by omega)
      have p1 := Mf_isP hI m0 w1
      rw [w1] at p1
      refine ⟨grS (Sea h a2.toNat) a1, F, grS (Sea h a2.toNat) a1, t, ?_, ?_, ?_, mt.1⟩
      · have q := ca.2.2.2.1 a1 g1.1 (by omega)
        simp (disch := omega) only [sf_grows, c_isPS hI w1 w2, fs, ch_s, w1, w2, q, bd_some, bI_wr, bI_t, bI_f, if_neg, if_pos, if_true, if_false, wr_id, chk_t]
      · have q := MA_g sF kA (p := a1) (by omega)
        simp (disch := omega) only [md_grows, lt_eq, p1, Mf_isS w2, et, w1, w2, q, bd_some, bI_wr, bI_t, bI_f, if_neg, if_pos, if_true, if_false, wr_id, chk_t]
      · rfl
    · have m0 : Mf h (up h 167 0 0) := Mf_self hI
      have p1 := Mf_isP hI m0 w1
      rw [w1] at p1
      refine ⟨-2, h, -2, up h 167 0 0, ?_, ?_, rfl, m0.1⟩
      · simp (disch := omega) only [sf_grows, c_isPS hI w1 w2, bd_some, bI_wr, bI_t, bI_f, if_neg, if_pos, if_true, if_false, wr_id, chk_t]
      · simp (disch := omega) only [md_grows, lt_eq, p1, Mf_isS w2, w1, w2, bd_some, bI_wr, bI_t, bI_f, if_neg, if_pos, if_true, if_false, wr_id, chk_t]
  · have m0 : Mf h (up h 167 0 0) := Mf_self hI
    have p1 := Mf_isP hI m0 w1
    rw [w1] at p1
    refine ⟨-2, h, -2, up h 167 0 0, ?_, ?_, rfl, m0.1⟩
    · simp (disch := omega) only [sf_grows, c_isPS hI w1 w2, bd_some, bI_wr, bI_t, bI_f, if_neg, if_pos, if_true, if_false, wr_id, chk_t]
    · simp (disch := omega) only [md_grows, lt_eq, p1, w1, bd_some, bI_wr, bI_t, bI_f, if_neg, if_pos, if_true, if_false, wr_id, chk_t]
theorem st_has : St_has INV := by
  intro h hI a1 a2 w1 w2
  have b1 := in32 w1
  have b2 := in32 w2
  obtain ⟨_, lK, lL, _, _, lP, _⟩ := INV_l hI
  by_cases g1 : 0 ≤ a1 ∧ a1 < h 9 5
  · by_cases g2 : 0 ≤ a2 ∧ a2 < 13
    · obtain ⟨F, hF⟩ := s_at hI
      have m0 : Mf h (up F 167 0 0) := Mf_0 hF (by omega) (by omega) (by omega)
      obtain ⟨t, et, kB, kA, mt⟩ := Mf_lays m0 (s := a2) (by omega)
      obtain ⟨sW, sF, eK, eL, eP, eN⟩ := Sea_ok hI a2.toNat
      have fs := (hF.2.2.1 a2 g2.1 g2.2).1
      have ca := hF.2.2.2.1 a2.toNat (by omega)
      have p1 := Mf_isP hI m0 w1
      rw [w1] at p1
      refine ⟨shS (Sea h a2.toNat) a1, F, shS (Sea h a2.toNat) a1, t, ?_, ?_, ?_, mt.1⟩
      · have q := c_share ca (by omega) (p := a1) (by omega)
        simp (disch := omega) only [sf_has, c_isPS hI w1 w2, fs, ch_s, w1, w2, q, bd_some, bI_wr, bI_t, bI_f, if_neg, if_pos, if_true, if_false, wr_id, chk_t]
      · have q := m_has sW sF kA (p := a1) (by omega)
        simp (disch := omega) only [md_has, lt_eq, p1, Mf_isS w2, et, w1, w2, q, bd_some, bI_wr, bI_t, bI_f, if_neg, if_pos, if_true, if_false, wr_id, chk_t]
      · rfl
    · have m0 : Mf h (up h 167 0 0) := Mf_self hI
      have p1 := Mf_isP hI m0 w1
      rw [w1] at p1
      refine ⟨-1000, h, -1000, up h 167 0 0, ?_, ?_, rfl, m0.1⟩
      · simp (disch := omega) only [sf_has, c_isPS hI w1 w2, bd_some, bI_wr, bI_t, bI_f, if_neg, if_pos, if_true, if_false, wr_id, chk_t]
      · simp (disch := omega) only [md_has, lt_eq, p1, Mf_isS w2, w1, w2, bd_some, bI_wr, bI_t, bI_f, if_neg, if_pos, if_true, if_false, wr_id, chk_t]
  · have m0 : Mf h (up h 167 0 0) := Mf_self hI
    have p1 := Mf_isP hI m0 w1
    rw [w1] at p1
    refine ⟨-1000, h, -1000, up h 167 0 0, ?_, ?_, rfl, m0.1⟩
    · simp (disch := omega) only [sf_has, c_isPS hI w1 w2, bd_some, bI_wr, bI_t, bI_f, if_neg, if_pos, if_true, if_false, wr_id, chk_t]
    · simp (disch := omega) only [md_has, lt_eq, p1, w1, bd_some, bI_wr, bI_t, bI_f, if_neg, if_pos, if_true, if_false, wr_id, chk_t]
theorem st_joy : St_joy INV := by
  intro h hI a1 a2 w1 w2
  have b1 := in32 w1
  have b2 := in32 w2
  obtain ⟨_, lK, lL, _, _, lP, _⟩ := INV_l hI
  by_cases g1 : 0 ≤ a1 ∧ a1 < h 9 5
  · by_cases g2 : 0 ≤ a2 ∧ a2 < 13
    · obtain ⟨F, hF⟩ := s_at hI
      have m0 : Mf h (up F 167 0 0) := Mf_0 hF (by omega) (by omega) (by omega)
      obtain ⟨t, et, kB, kA, mt⟩ := Mf_lays m0 (s := a2) (by omega)
      obtain ⟨sW, sF, eK, eL, eP, eN⟩ := Sea_ok hI a2.toNat
      have fs := (hF.2.2.1 a2 g2.1 g2.2).1
      have ca := hF.2.2.2.1 a2.toNat (by omega)
      have p1 := Mf_isP hI m0 w1
      rw [w1] at p1
      refine ⟨joS (Sea h a2.toNat) a1, F, joS (Sea h a2.toNat) a1, t, ?_, ?_, ?_, mt.1⟩
      · have q := c_joy ca (by omega) (p := a1) (by omega)
        simp (disch := omega) only [sf_joy, c_isPS hI w1 w2, fs, ch_s, w1, w2, q, bd_some, bI_wr, bI_t, bI_f, if_neg, if_pos, if_true, if_false, wr_id, chk_t]
      · have q := m_joy (by omega) sF kA (p := a1) (by omega)
        simp (disch := omega) only [md_joy, lt_eq, p1, Mf_isS w2, et, w1, w2, q, bd_some, bI_wr, bI_t, bI_f, if_neg, if_pos, if_true, if_false, wr_id, chk_t]
      · rfl
    · have m0 : Mf h (up h 167 0 0) := Mf_self hI
      have p1 := Mf_isP hI m0 w1
      rw [w1] at p1
      refine ⟨-1000, h, -1000, up h 167 0 0, ?_, ?_, rfl, m0.1⟩
      · simp (disch := omega) only [sf_joy, c_isPS hI w1 w2, bd_some, bI_wr, bI_t, bI_f, if_neg, if_pos, if_true, if_false, wr_id, chk_t]
      · simp (disch := omega) only [md_joy, lt_eq, p1, Mf_isS w2, w1, w2, bd_some, bI_wr, bI_t, bI_f, if_neg, if_pos, if_true, if_false, wr_id, chk_t]
  · have m0 : Mf h (up h 167 0 0) := Mf_self hI
    have p1 := Mf_isP hI m0 w1
    rw [w1] at p1
    refine ⟨-1000, h, -1000, up h 167 0 0, ?_, ?_, rfl, m0.1⟩
    · simp (disch := omega) only [sf_joy, c_isPS hI w1 w2, bd_some, bI_wr, bI_t, bI_f, if_neg, if_pos, if_true, if_false, wr_id, chk_t]
    · simp (disch := omega) only [md_joy, lt_eq, p1, w1, bd_some, bI_wr, bI_t, bI_f, if_neg, if_pos, if_true, if_false, wr_id, chk_t]
theorem st_smell : St_smell INV := by
  intro h hI a1 a2 w1 w2
  have b1 := in32 w1
  have b2 := in32 w2
  obtain ⟨_, lK, lL, _, _, lP, _⟩ := INV_l hI
  by_cases g1 : 0 ≤ a1 ∧ a1 < h 9 5
  · by_cases g2 : 0 ≤ a2 ∧ a2 < 13
    · obtain ⟨F, hF⟩ := s_at hI
      have m0 : Mf h (up F 167 0 0) := Mf_0 hF (by omega) (by omega) (by omega)
      obtain ⟨t, et, kB, kA, mt⟩ := Mf_lays m0 (s := a2) (by omega)
      obtain ⟨sW, sF, eK, eL, eP, eN⟩ := Sea_ok hI a2.toNat
      have fs := (hF.2.2.1 a2 g2.1 g2.2).1
      have ca := hF.2.2.2.1 a2.toNat (by omega)
      have p1 := Mf_isP hI m0 w1
      rw [w1] at p1
      refine ⟨snS (Sea h a2.toNat) a1, F, joS (Sea h a2.toNat) a1 - shS (Sea h a2.toNat) a1, t, ?_, ?_, ?_, mt.1⟩
      · have q := ca.2.2.2.2 a1 g1.1 (by omega)
        simp (disch := omega) only [sf_smell, c_isPS hI w1 w2, fs, ch_s, w1, w2, q, bd_some, bI_wr, bI_t, bI_f, if_neg, if_pos, if_true, if_false, wr_id, chk_t]
      · have q := m_joy (by omega) sF kA (p := a1) (by omega)
        have q2 := m_has sW sF kA (p := a1) (by omega)
        simp (disch := omega) only [md_smell, lt_eq, p1, Mf_isS w2, et, w1, w2, q, q2, bd_some, bI_wr, bI_t, bI_f, if_neg, if_pos, if_true, if_false, wr_id, chk_t]
      · congr 1; unfold shS; omega
    · have m0 : Mf h (up h 167 0 0) := Mf_self hI
      have p1 := Mf_isP hI m0 w1
      rw [w1] at p1
      refine ⟨-2, h, -2, up h 167 0 0, ?_, ?_, rfl, m0.1⟩
      · simp (disch := omega) only [sf_smell, c_isPS hI w1 w2, bd_some, bI_wr, bI_t, bI_f, if_neg, if_pos, if_true, if_false, wr_id, chk_t]
      · simp (disch := omega) only [md_smell, lt_eq, p1, Mf_isS w2, w1, w2, bd_some, bI_wr, bI_t, bI_f, if_neg, if_pos, if_true, if_false, wr_id, chk_t]
  · have m0 : Mf h (up h 167 0 0) := Mf_self hI
    have p1 := Mf_isP hI m0 w1
    rw [w1] at p1
    refine ⟨-2, h, -2, up h 167 0 0, ?_, ?_, rfl, m0.1⟩
    · simp (disch := omega) only [sf_smell, c_isPS hI w1 w2, bd_some, bI_wr, bI_t, bI_f, if_neg, if_pos, if_true, if_false, wr_id, chk_t]
    · simp (disch := omega) only [md_smell, lt_eq, p1, w1, bd_some, bI_wr, bI_t, bI_f, if_neg, if_pos, if_true, if_false, wr_id, chk_t]
theorem st_loves : St_loves INV := by
  intro h hI a1 a2 w1 w2
  have b1 := in32 w1
  have b2 := in32 w2
  obtain ⟨_, lK, lL, _, _, lP, _⟩ := INV_l hI
  by_cases g1 : 0 ≤ a1 ∧ a1 < h 9 5
  · by_cases g2 : 0 ≤ a2 ∧ a2 < 13
    · obtain ⟨F, hF⟩ := s_at hI
      have m0 : Mf h (up F 167 0 0) := Mf_0 hF (by omega) (by omega) (by omega)
      obtain ⟨t, et, kB, kA, mt⟩ := Mf_lays m0 (s := a2) (by omega)
      obtain ⟨sW, sF, eK, eL, eP, eN⟩ := Sea_ok hI a2.toNat
      have fs := (hF.2.2.1 a2 g2.1 g2.2).1
      have ca := hF.2.2.2.1 a2.toNat (by omega)
      have p1 := Mf_isP hI m0 w1
      rw [w1] at p1
      refine ⟨bs (lovS (Sea h a2.toNat) a1), F, bs (lovS (Sea h a2.toNat) a1), t, ?_, ?_, ?_, mt.1⟩
      · have q := c_loved sW ca.1 (p := a1) (by omega)
        simp (disch := omega) only [sf_loves, c_isPS hI w1 w2, fs, ch_s, w1, w2, q, bd_some, bI_wr, bI_t, bI_f, if_neg, if_pos, if_true, if_false, wr_id, chk_t]
      · have q := m_loved sW kA.1 (p := a1) (by omega)
        simp (disch := omega) only [md_loves, lt_eq, p1, Mf_isS w2, et, w1, w2, q, bd_some, bI_wr, bI_t, bI_f, if_neg, if_pos, if_true, if_false, wr_id, chk_t]
      · rfl
    · have m0 : Mf h (up h 167 0 0) := Mf_self hI
      have p1 := Mf_isP hI m0 w1
      rw [w1] at p1
      refine ⟨-2, h, -2, up h 167 0 0, ?_, ?_, rfl, m0.1⟩
      · simp (disch := omega) only [sf_loves, c_isPS hI w1 w2, bd_some, bI_wr, bI_t, bI_f, if_neg, if_pos, if_true, if_false, wr_id, chk_t]
      · simp (disch := omega) only [md_loves, lt_eq, p1, Mf_isS w2, w1, w2, bd_some, bI_wr, bI_t, bI_f, if_neg, if_pos, if_true, if_false, wr_id, chk_t]
  · have m0 : Mf h (up h 167 0 0) := Mf_self hI
    have p1 := Mf_isP hI m0 w1
    rw [w1] at p1
    refine ⟨-2, h, -2, up h 167 0 0, ?_, ?_, rfl, m0.1⟩
    · simp (disch := omega) only [sf_loves, c_isPS hI w1 w2, bd_some, bI_wr, bI_t, bI_f, if_neg, if_pos, if_true, if_false, wr_id, chk_t]
    · simp (disch := omega) only [md_loves, lt_eq, p1, w1, bd_some, bI_wr, bI_t, bI_f, if_neg, if_pos, if_true, if_false, wr_id, chk_t]
theorem st_bare : St_bare INV := by
  intro h hI a1 w1
  have b1 := in32 w1
  obtain ⟨_, lK, lL, _, _, lP, _⟩ := INV_l hI
  by_cases g : h 9 0 = 1 ∧ 0 ≤ a1 ∧ a1 < 13
  · obtain ⟨F, hF⟩ := s_at hI
    have m0 : Mf h (up F 167 0 0) := Mf_0 hF (by omega) (by omega) (by omega)
    obtain ⟨t, et, kB, kA, mt⟩ := Mf_lays m0 (s := a1) (by omega)
    obtain ⟨sW, sF, eK, eL, eP, eN⟩ := Sea_ok hI a1.toNat
    have fs := (hF.2.2.1 a1 g.2.1 g.2.2).1
    have ca := hF.2.2.2.1 a1.toNat (by omega)
    refine ⟨bs (gwS (Sea h a1.toNat) (-1)), F, bs (gwS (Sea h a1.toNat) (-1)), t, ?_, ?_, rfl, mt.1⟩
    · have q := c_growers sW ca (k := -1) (by omega)
      simp (disch := omega) only [sf_bare, c_isS hI w1, fs, ch_s, w1, q, bd_some, bI_wr, bI_t, bI_f, if_neg, if_pos, if_true, if_false, wr_id, chk_t]
    · have q := m_bare sW kA
      rw [brS_full sW sF] at q
      simp (disch := omega) only [md_bare, lt_eq, Mf_isT hI m0 w1, et, w1, q, bd_some, bI_wr, bI_t, bI_f, if_neg, if_pos, if_true, if_false, wr_id, chk_t]
  · have m0 : Mf h (up h 167 0 0) := Mf_self hI
    refine ⟨-2, h, -2, up h 167 0 0, ?_, ?_, rfl, m0.1⟩
    · simp (disch := omega) only [sf_bare, c_isS hI w1, bd_some, bI_wr, bI_t, bI_f, if_neg, if_pos, if_true, if_false, wr_id, chk_t]
    · simp (disch := omega) only [md_bare, lt_eq, Mf_isT hI m0 w1, bd_some, bI_wr, bI_t, bI_f, if_neg, if_pos, if_true, if_false, wr_id, chk_t]
theorem st_all : St_all INV := by
  intro h hI a1 w1
  have b1 := in32 w1
  obtain ⟨_, lK, lL, _, _, lP, _⟩ := INV_l hI
  by_cases g : h 9 0 = 1 ∧ 0 ≤ a1 ∧ a1 < 13
  · obtain ⟨F, hF⟩ := s_at hI
    have m0 : Mf h (up F 167 0 0) := Mf_0 hF (by omega) (by omega) (by omega)
    obtain ⟨t, et, kB, kA, mt⟩ := Mf_lays m0 (s := a1) (by omega)
    obtain ⟨sW, sF, eK, eL, eP, eN⟩ := Sea_ok hI a1.toNat
    have fs := (hF.2.2.1 a1 g.2.1 g.2.2).1
    have ca := hF.2.2.2.1 a1.toNat (by omega)
    refine ⟨suS (Sea h a1.toNat), F, suS (Sea h a1.toNat), t, ?_, ?_, rfl, mt.1⟩
    · have q := c_sum sW ca
      simp (disch := omega) only [sf_all, c_isS hI w1, fs, ch_s, w1, q, bd_some, bI_wr, bI_t, bI_f, if_neg, if_pos, if_true, if_false, wr_id, chk_t]
    · have q := m_hasAll sW sF kA
      simp (disch := omega) only [md_all, lt_eq, Mf_isT hI m0 w1, et, w1, q, bd_some, bI_wr, bI_t, bI_f, if_neg, if_pos, if_true, if_false, wr_id, chk_t]
  · have m0 : Mf h (up h 167 0 0) := Mf_self hI
    refine ⟨-10000, h, -10000, up h 167 0 0, ?_, ?_, rfl, m0.1⟩
    · simp (disch := omega) only [sf_all, c_isS hI w1, bd_some, bI_wr, bI_t, bI_f, if_neg, if_pos, if_true, if_false, wr_id, chk_t]
    · simp (disch := omega) only [md_all, lt_eq, Mf_isT hI m0 w1, bd_some, bI_wr, bI_t, bI_f, if_neg, if_pos, if_true, if_false, wr_id, chk_t]
def hpN (S : Sn) : Nat → Int
  | 0 => -1
  | n + 1 => if hpN S n = -1 ∨ shS S (hpN S n) < shS S (n : Int) then (n : Int) else hpN S n
def hpI (S : Sn) (i : Int) : Int := hpN S i.toNat
theorem hpI_succ (S : Sn) {i : Int} (h : 0 ≤ i) : hpI S (i + 1) = if hpI S i = -1 ∨ shS S (hpI S i) < shS S i then i else hpI S i := by
  unfold hpI
  have e : (i + 1).toNat = i.toNat + 1 := by omega
  have e2 : ((i.toNat : Nat) : Int) = i := by omega
  rw [e, hpN, e2]
theorem hpI_in (S : Sn) {n : Int} (hn : 0 ≤ n) : -1 ≤ hpI S n ∧ hpI S n < n :=
  ind_to (P := fun i => -1 ≤ hpI S i ∧ hpI S i < i) (n := n) (by show -1 ≤ (-1 : Int) ∧ (-1 : Int) < 0; omega) (fun i a b d => by
    rw [hpI_succ S a]; split <;> omega) n hn (by omega)
theorem c_happy {F : Hp} {o : Nat} {S : Sn} (hW : WF S) (hC : CA F o S) (h5 : F 9 5 = sP S) : iter FU (sf_happiest_b1 (o, F)) (-1, 0) = some (hpI S (sP S)) := by
  have hP := hW.2.2.1
  exact lp_fn (body := sf_happiest_b1 (o, F)) (s0 := (-1, 0)) (fun i => (hpI S i, i)) (sP S) (hpI S (sP S)) (by omega) (by omega) rfl (fun i a b => by
    have h1 := hpI_in S a
    have h2 := shS_in hW i
    have h3 := shS_in hW (hpI S i)
    rw [hpI_succ S a]
    by_cases q : hpI S i = -1
    · simp (disch := omega) only [sf_happiest_b1, h5, wr_id, if_pos, if_true, q, bd_some, true_or]
    · have e1 := c_share hC hP.2 (p := i) (by omega)
      have e2 := c_share hC hP.2 (p := hpI S i) (by omega)
      by_cases q2 : shS S (hpI S i) < shS S i
      · simp (disch := omega) only [sf_happiest_b1, h5, wr_id, if_pos, if_neg, e1, e2, bd_some]
      · simp (disch := omega) only [sf_happiest_b1, h5, wr_id, if_pos, if_neg, e1, e2, bd_some]) (by
    simp (disch := omega) only [sf_happiest_b1, h5, wr_id, if_neg])
theorem m_happy {t : Hp} {S : Sn} (hW : WF S) (hF : Full S) (hM : MA t S) : iter FU (md_happiest_b1 t) (-1, 0) = some (hpI S (sP S)) := by
  have hP := hW.2.2.1
  have c2 := hM.1.2.2.1
  exact lp_fn (body := md_happiest_b1 t) (s0 := (-1, 0)) (fun i => (hpI S i, i)) (sP S) (hpI S (sP S)) (by omega) (by omega) rfl (fun i a b => by
    have h1 := hpI_in S a
    have h2 := shS_in hW i
    have h3 := shS_in hW (hpI S i)
    rw [hpI_succ S a]
    by_cases q : hpI S i = -1
    · simp (disch := omega) only [md_happiest_b1, md_people, c2, wr_id, if_pos, if_true, q, bd_some, true_or]
    · have e1 := m_has hW hF hM (p := i) (by omega)
      have e2 := m_has hW hF hM (p := hpI S i) (by omega)
      by_cases q2 : shS S (hpI S i) < shS S i
      · simp (disch := omega) only [md_happiest_b1, md_people, c2, wr_id, if_pos, if_neg, e1, e2, bd_some]
      · simp (disch := omega) only [md_happiest_b1, md_people, c2, wr_id, if_pos, if_neg, e1, e2, bd_some]) (by
    simp (disch := omega) only [md_happiest_b1, md_people, bd_some, c2, wr_id, if_neg])
theorem Fil_9 {h F : Hp} (hF : Fil h F) : F 9 = h 9 := hF.2.2.2.2.1 9 (by omega) (by omega)
theorem st_happiest : St_happiest INV := by
  intro h hI a1 w1
  have b1 := in32 w1
  obtain ⟨_, lK, lL, _, _, lP, _⟩ := INV_l hI
  by_cases g : h 9 0 = 1 ∧ 0 ≤ a1 ∧ a1 < 13
  · obtain ⟨F, hF⟩ := s_at hI
    have m0 : Mf h (up F 167 0 0) := Mf_0 hF (by omega) (by omega) (by omega)
    obtain ⟨t, et, kB, kA, mt⟩ := Mf_lays m0 (s := a1) (by omega)
    obtain ⟨sW, sF, eK, eL, eP, eN⟩ := Sea_ok hI a1.toNat
    have fs := (hF.2.2.1 a1 g.2.1 g.2.2).1
    have ca := hF.2.2.2.1 a1.toNat (by omega)
    refine ⟨hpI (Sea h a1.toNat) (sP (Sea h a1.toNat)), F, hpI (Sea h a1.toNat) (sP (Sea h a1.toNat)), t, ?_, ?_, rfl, mt.1⟩
    · have q := c_happy sW ca (by rw [Fil_9 hF, eP])
      simp (disch := omega) only [sf_happiest, c_isS hI w1, fs, ch_s, w1, q, bd_some, bI_wr, bI_t, bI_f, if_neg, if_pos, if_true, if_false, wr_id, chk_t]
    · have q := m_happy sW sF kA
      simp (disch := omega) only [md_happiest, lt_eq, Mf_isT hI m0 w1, et, w1, q, bd_some, bI_wr, bI_t, bI_f, if_neg, if_pos, if_true, if_false, wr_id, chk_t]
  · have m0 : Mf h (up h 167 0 0) := Mf_self hI
    refine ⟨-2, h, -2, up h 167 0 0, ?_, ?_, rfl, m0.1⟩
    · simp (disch := omega) only [sf_happiest, c_isS hI w1, bd_some, bI_wr, bI_t, bI_f, if_neg, if_pos, if_true, if_false, wr_id, chk_t]
    · simp (disch := omega) only [md_happiest, lt_eq, Mf_isT hI m0 w1, bd_some, bI_wr, bI_t, bI_f, if_neg, if_pos, if_true, if_false, wr_id, chk_t]
def htS (S : Sn) (k : Int) : Int := sm (sP S) (fun p => if sT S (p * 5 + k) < 0 then - sT S (p * 5 + k) else 0)
theorem htS_in {S : Sn} (hW : WF S) {n : Int} (hn : 0 ≤ n ∧ n ≤ 6) (k : Int) : 0 ≤ sm n (fun p => if sT S (p * 5 + k) < 0 then - sT S (p * 5 + k) else 0) ∧ sm n (fun p => if sT S (p * 5 + k) < 0 then - sT S (p * 5 + k) else 0) ≤ 54 := by
  have h1 := sm_le hn.1 (f := fun p => if sT S (p * 5 + k) < 0 then - sT S (p * 5 + k) else 0) (m := 0) (M := 9) (fun p _ _ => by
    have := hW.2.2.2.2.1 (p * 5 + k)
    try dsimp only
    split <;> omega)
  omega
theorem c_hateFor {h : Hp} {o : Nat} {S : Sn} (hW : WF S) (hC : CP h o S) {k : Int} (hk : 0 ≤ k ∧ k < 5) : sn_hateFor h o k = some (htS S k) := by
  have hP := hW.2.2.1
  have c2 := hC.2.2.1
  unfold sn_hateFor
  have hit := lp_fn (body := sn_hateFor_b1 h o k) (s0 := (0, 0)) (fun i => (sm i (fun p => if sT S (p * 5 + k) < 0 then - sT S (p * 5 + k) else 0), i)) (sP S) (htS S k) (by omega) (by omega) rfl (fun i a b => by
    have e1 := c_ta hC (p := i) (k := k) (by omega) (by omega)
    have ht := hW.2.2.2.2.1 (i * 5 + k)
    rw [taS_pos (by omega)] at e1
    have em : imax (- sT S (i * 5 + k)) 0 = if sT S (i * 5 + k) < 0 then - sT S (i * 5 + k) else 0 := by
      unfold imax
      rw [wr_id (by omega), wr_id (by omega)]
      split <;> split <;> omega
    simp (disch := omega) only [sn_hateFor_b1, c2, wr_id, if_pos, e1, bd_some, em, sm_succ a]) (by
    simp (disch := omega) only [sn_hateFor_b1, c2, wr_id, if_neg]
    rfl)
  rw [hit]; rfl
def foN (S : Sn) : Nat → Int × Int
  | 0 => (-1, 0)
  | n + 1 => if (foN S n).2 < htS S (n : Int) then ((n : Int), htS S (n : Int)) else foN S n
def foI (S : Sn) (i : Int) : Int × Int := foN S i.toNat
theorem foI_succ (S : Sn) {i : Int} (h : 0 ≤ i) : foI S (i + 1) = if (foI S i).2 < htS S i then (i, htS S i) else foI S i := by
  unfold foI
  have e : (i + 1).toNat = i.toNat + 1 := by omega
  have e2 : ((i.toNat : Nat) : Int) = i := by omega
  rw [e, foN, e2]
theorem foI_in {S : Sn} (hW : WF S) {n : Int} (hn : 0 ≤ n) : 0 ≤ (foI S n).2 ∧ (foI S n).2 ≤ 54 :=
  ind_to (P := fun i => 0 ≤ (foI S i).2 ∧ (foI S i).2 ≤ 54) (n := n) (by show 0 ≤ (0 : Int) ∧ (0 : Int) ≤ 54; omega) (fun i a b d => by
    have := htS_in hW hW.2.2.1 i
    rw [foI_succ S a]; split
    · exact this
    · exact d) n hn (by omega)
theorem c_foe {F : Hp} {o : Nat} {S : Sn} (hW : WF S) (hC : CP F o S) (h1 : F 9 1 = sK S) : iter FU (sf_foe_b1 (o, F)) (-1, 0, 0) = some (foI S (sK S)).1 := by
  have hK := hW.1
  exact lp_fn (body := sf_foe_b1 (o, F)) (s0 := (-1, 0, 0)) (fun i => ((foI S i).1, (foI S i).2, i)) (sK S) (foI S (sK S)).1 (by omega) (by omega) rfl (fun i a b => by
    have h2 := foI_in hW a
    have h3 : 0 ≤ htS S i ∧ htS S i ≤ 54 := htS_in hW hW.2.2.1 i
    have e1 := c_hateFor hW hC (k := i) (by omega)
    rw [foI_succ S a]
    by_cases q : (foI S i).2 < htS S i
    · simp (disch := omega) only [sf_foe_b1, h1, wr_id, if_pos, e1, bd_some]
    · simp (disch := omega) only [sf_foe_b1, h1, wr_id, if_pos, if_neg, e1, bd_some]) (by
    simp (disch := omega) only [sf_foe_b1, h1, wr_id, if_neg])
theorem m_foe {t : Hp} {S : Sn} (hW : WF S) (hM : MP t S) : iter FU (md_foe_b1 t) (-1, 0, 0) = some (foI S (sK S)).1 := by
  have hK := hW.1
  have hP := hW.2.2.1
  have c0 := hM.1
  have c2 := hM.2.2.1
  exact lp_fn (body := md_foe_b1 t) (s0 := (-1, 0, 0)) (fun i => ((foI S i).1, (foI S i).2, i)) (sK S) (foI S (sK S)).1 (by omega) (by omega) rfl (fun i a b => by
    have h2 := foI_in hW a
    have h3 : 0 ≤ htS S i ∧ htS S i ≤ 54 := htS_in hW hW.2.2.1 i
    have e1 : iter FU (md_foe_b2 t ((foI S i).1, (foI S i).2, i)) (0, 0) = some (htS S i) := lp_fn (body := md_foe_b2 t ((foI S i).1, (foI S i).2, i)) (s0 := (0, 0)) (fun j => (sm j (fun p => if sT S (p * 5 + i) < 0 then - sT S (p * 5 + i) else 0), j)) (sP S) (htS S i) (by omega) (by omega) rfl (fun j a' b' => by
      have e1 := m_ta hM hP.2 (p := j) (k := i) (by omega) (by omega)
      have ht := hW.2.2.2.2.1 (j * 5 + i)
      rw [sm_succ a']
      by_cases q : sT S (j * 5 + i) < 0
      · simp (disch := omega) only [md_foe_b2, md_people, c2, wr_id, if_pos, e1, bd_some]
      · simp (disch := omega) only [md_foe_b2, md_people, c2, wr_id, if_pos, if_neg, e1, bd_some]) (by
      simp (disch := omega) only [md_foe_b2, md_people, bd_some, c2, wr_id, if_neg]
      rfl)
    rw [foI_succ S a]
    by_cases q : (foI S i).2 < htS S i
    · simp (disch := omega) only [md_foe_b1, md_kindsAll, c0, wr_id, if_pos, if_neg, e1, bd_some]
    · simp (disch := omega) only [md_foe_b1, md_kindsAll, c0, wr_id, if_pos, if_neg, e1, bd_some]) (by
    simp (disch := omega) only [md_foe_b1, md_kindsAll, bd_some, c0, wr_id, if_neg])
theorem st_foe : St_foe INV := by
  intro h hI a1 w1
  have b1 := in32 w1
  obtain ⟨_, lK, lL, _, _, lP, _⟩ := INV_l hI
  by_cases g : h 9 0 = 1 ∧ 0 ≤ a1 ∧ a1 < 13
  · obtain ⟨F, hF⟩ := s_at hI
    have m0 : Mf h (up F 167 0 0) := Mf_0 hF (by omega) (by omega) (by omega)
    obtain ⟨t, et, kB, kA, mt⟩ := Mf_lays m0 (s := a1) (by omega)
    obtain ⟨sW, sF, eK, eL, eP, eN⟩ := Sea_ok hI a1.toNat
    have fs := (hF.2.2.1 a1 g.2.1 g.2.2).1
    have ca := hF.2.2.2.1 a1.toNat (by omega)
    refine ⟨(foI (Sea h a1.toNat) (sK (Sea h a1.toNat))).1, F, (foI (Sea h a1.toNat) (sK (Sea h a1.toNat))).1, t, ?_, ?_, rfl, mt.1⟩
    · have q := c_foe sW ca.1 (by rw [Fil_9 hF, eK])
      simp (disch := omega) only [sf_foe, c_isS hI w1, fs, ch_s, w1, q, bd_some, bI_wr, bI_t, bI_f, if_neg, if_pos, if_true, if_false, wr_id, chk_t]
    · have q := m_foe sW kA.1
      simp (disch := omega) only [md_foe, lt_eq, Mf_isT hI m0 w1, et, w1, q, bd_some, bI_wr, bI_t, bI_f, if_neg, if_pos, if_true, if_false, wr_id, chk_t]
  · have m0 : Mf h (up h 167 0 0) := Mf_self hI
    refine ⟨-2, h, -2, up h 167 0 0, ?_, ?_, rfl, m0.1⟩
    · simp (disch := omega) only [sf_foe, c_isS hI w1, bd_some, bI_wr, bI_t, bI_f, if_neg, if_pos, if_true, if_false, wr_id, chk_t]
    · simp (disch := omega) only [md_foe, lt_eq, Mf_isT hI m0 w1, bd_some, bI_wr, bI_t, bI_f, if_neg, if_pos, if_true, if_false, wr_id, chk_t]
def unN (S : Sn) : Nat → Int
  | 0 => -1
  | n + 1 => if unN S n = -1 ∨ ct (opS S (unN S n)) < ct (opS S (n : Int)) then (n : Int) else unN S n
def unI (S : Sn) (i : Int) : Int := unN S i.toNat
theorem unI_succ (S : Sn) {i : Int} (h : 0 ≤ i) : unI S (i + 1) = if unI S i = -1 ∨ ct (opS S (unI S i)) < ct (opS S i) then i else unI S i := by
  unfold unI
  have e : (i + 1).toNat = i.toNat + 1 := by omega
  have e2 : ((i.toNat : Nat) : Int) = i := by omega
  rw [e, unN, e2]
theorem unI_in (S : Sn) {n : Int} (hn : 0 ≤ n) : -1 ≤ unI S n ∧ unI S n < n :=
  ind_to (P := fun i => -1 ≤ unI S i ∧ unI S i < i) (n := n) (by show -1 ≤ (-1 : Int) ∧ (-1 : Int) < 0; omega) (fun i a b d => by
    rw [unI_succ S a]; split <;> omega) n hn (by omega)
theorem c_uncle {F : Hp} {o : Nat} {S : Sn} (hW : WF S) (hC : CA F o S) (h5 : F 9 5 = sP S) : iter FU (sf_uncle_b1 (o, F)) (-1, -1, 0) = some (unI S (sP S)) := by
  have hP := hW.2.2.1
  exact lp_fn (body := sf_uncle_b1 (o, F)) (s0 := (-1, -1, 0)) (fun i => (unI S i, (if unI S i = -1 then -1 else ct (opS S (unI S i))), i)) (sP S) (unI S (sP S)) (by omega) (by omega) rfl (fun i a b => by
    have h1 := unI_in S a
    have h2 := ct_in (opS S i)
    have h3 := ct_in (opS S (unI S i))
    have e1 := hC.2.1 i a b
    rw [unI_succ S a]
    by_cases q : unI S i = -1
    · simp (disch := omega) only [sf_uncle_b1, h5, wr_id, if_pos, if_neg, if_true, chk_t, e1, bitCount_bs, q, bd_some, true_or]
    · by_cases q2 : ct (opS S (unI S i)) < ct (opS S i)
      · simp (disch := omega) only [sf_uncle_b1, h5, wr_id, if_pos, if_neg, chk_t, e1, bitCount_bs, bd_some]
      · simp (disch := omega) only [sf_uncle_b1, h5, wr_id, if_pos, if_neg, chk_t, e1, bitCount_bs, bd_some]) (by
    simp (disch := omega) only [sf_uncle_b1, h5, wr_id, if_neg])
theorem m_uncle {t : Hp} {S : Sn} (hW : WF S) (hM : MP t S) : iter FU (md_uncle_b1 t) (-1, 0) = some (unI S (sP S)) := by
  have hP := hW.2.2.1
  have c2 := hM.2.2.1
  exact lp_fn (body := md_uncle_b1 t) (s0 := (-1, 0)) (fun i => (unI S i, i)) (sP S) (unI S (sP S)) (by omega) (by omega) rfl (fun i a b => by
    have h1 := unI_in S a
    have h2 := ct_in (opS S i)
    have h3 := ct_in (opS S (unI S i))
    rw [unI_succ S a]
    by_cases q : unI S i = -1
    · simp (disch := omega) only [md_uncle_b1, md_people, c2, wr_id, if_pos, if_true, q, bd_some, true_or]
    · have e1 := m_open hW hM (p := i) (by omega)
      have e2 := m_open hW hM (p := unI S i) (by omega)
      by_cases q2 : ct (opS S (unI S i)) < ct (opS S i)
      · simp (disch := omega) only [md_uncle_b1, md_people, c2, wr_id, if_pos, if_neg, e1, e2, sizeOf_bs, bd_some]
      · simp (disch := omega) only [md_uncle_b1, md_people, c2, wr_id, if_pos, if_neg, e1, e2, sizeOf_bs, bd_some]) (by
    simp (disch := omega) only [md_uncle_b1, md_people, bd_some, c2, wr_id, if_neg])
theorem st_uncle : St_uncle INV := by
  intro h hI a1 w1
  have b1 := in32 w1
  obtain ⟨_, lK, lL, _, _, lP, _⟩ := INV_l hI
  by_cases g : h 9 0 = 1 ∧ 0 ≤ a1 ∧ a1 < 13
  · obtain ⟨F, hF⟩ := s_at hI
    have m0 : Mf h (up F 167 0 0) := Mf_0 hF (by omega) (by omega) (by omega)
    obtain ⟨t, et, kB, kA, mt⟩ := Mf_lays m0 (s := a1) (by omega)
    obtain ⟨sW, sF, eK, eL, eP, eN⟩ := Sea_ok hI a1.toNat
    have fs := (hF.2.2.1 a1 g.2.1 g.2.2).1
    have ca := hF.2.2.2.1 a1.toNat (by omega)
    refine ⟨unI (Sea h a1.toNat) (sP (Sea h a1.toNat)), F, unI (Sea h a1.toNat) (sP (Sea h a1.toNat)), t, ?_, ?_, rfl, mt.1⟩
    · have q := c_uncle sW ca (by rw [Fil_9 hF, eP])
      simp (disch := omega) only [sf_uncle, c_isS hI w1, fs, ch_s, w1, q, bd_some, bI_wr, bI_t, bI_f, if_neg, if_pos, if_true, if_false, wr_id, chk_t]
    · have q := m_uncle sW kA.1
      simp (disch := omega) only [md_uncle, lt_eq, Mf_isT hI m0 w1, et, w1, q, bd_some, bI_wr, bI_t, bI_f, if_neg, if_pos, if_true, if_false, wr_id, chk_t]
  · have m0 : Mf h (up h 167 0 0) := Mf_self hI
    refine ⟨-2, h, -2, up h 167 0 0, ?_, ?_, rfl, m0.1⟩
    · simp (disch := omega) only [sf_uncle, c_isS hI w1, bd_some, bI_wr, bI_t, bI_f, if_neg, if_pos, if_true, if_false, wr_id, chk_t]
    · simp (disch := omega) only [md_uncle, lt_eq, Mf_isT hI m0 w1, bd_some, bI_wr, bI_t, bI_f, if_neg, if_pos, if_true, if_false, wr_id, chk_t]
def haS (S : Sn) (k : Int) : Int → Bool := upto (sP S) (fun p => opS S p k)
theorem c_haters {F : Hp} {o : Nat} {S : Sn} (hW : WF S) (hC : CA F o S) (h5 : F 9 5 = sP S) {k : Int} (hk : 0 ≤ k ∧ k < 5) : iter FU (sf_haters_b1 k (o, F)) (0, 0) = some (bs (haS S k)) := by
  have hP := hW.2.2.1
  exact lp_fn (body := sf_haters_b1 k (o, F)) (s0 := (0, 0)) (fun i => (bs (upto i (fun p => opS S p k)), i)) (sP S) (bs (haS S k)) (by omega) (by omega) (by rw [upto0]) (fun i a b => by
    have e1 := hC.2.1 i a b
    have e2 := c_holds F (opS S i) (k := k) (by omega)
    rw [← bs_up _ a (show i < 6 by omega)]
    simp (disch := omega) only [sf_haters_b1, h5, wr_id, if_pos, chk_t, e1, e2, bd_some]
    rw [wr_bt]
    cases opS S i k <;> rfl) (by
    simp (disch := omega) only [sf_haters_b1, h5, wr_id, if_neg]
    rfl)
theorem m_haters {t : Hp} {S : Sn} (hW : WF S) (hM : MP t S) {k : Int} (hk : 0 ≤ k ∧ k < 5) : iter FU (md_haters_b1 k t) (0, 0) = some (bs (haS S k)) := by
  have hP := hW.2.2.1
  have c2 := hM.2.2.1
  exact lp_fn (body := md_haters_b1 k t) (s0 := (0, 0)) (fun i => (bs (upto i (fun p => opS S p k)), i)) (sP S) (bs (haS S k)) (by omega) (by omega) (by rw [upto0]) (fun i a b => by
    have e1 := m_open hW hM (p := i) (by omega)
    have e2 := m_isBit t (opS S i) (k := k) (by omega)
    rw [← bs_up' _ a (show i < 6 by omega)]
    simp (disch := omega) only [md_haters_b1, md_people, c2, wr_id, if_pos, e1, e2, bd_some]
    rw [wr_bt]
    cases opS S i k <;> rfl) (by
    simp (disch := omega) only [md_haters_b1, md_people, bd_some, c2, wr_id, if_neg]
    rfl)
theorem st_growers : St_growers INV := by
  intro h hI a1 a2 w1 w2
  have b1 := in32 w1
  have b2 := in32 w2
  obtain ⟨_, lK, lL, _, _, lP, _⟩ := INV_l hI
  by_cases g1 : 0 ≤ a1 ∧ a1 < h 9 1
  · by_cases g2 : 0 ≤ a2 ∧ a2 < 13
    · obtain ⟨F, hF⟩ := s_at hI
      have m0 : Mf h (up F 167 0 0) := Mf_0 hF (by omega) (by omega) (by omega)
      obtain ⟨t, et, kB, kA, mt⟩ := Mf_lays m0 (s := a2) (by omega)
      obtain ⟨sW, sF, eK, eL, eP, eN⟩ := Sea_ok hI a2.toNat
      have fs := (hF.2.2.1 a2 g2.1 g2.2).1
      have ca := hF.2.2.2.1 a2.toNat (by omega)
      have p1 := Mf_isK hI m0 w1
      rw [w1] at p1
      refine ⟨bs (gwS (Sea h a2.toNat) a1), F, bs (gwS (Sea h a2.toNat) a1), t, ?_, ?_, rfl, mt.1⟩
      · have q := c_growers sW ca (k := a1) (by omega)
        simp (disch := omega) only [sf_growers, c_isKS hI w1 w2, fs, ch_s, w1, w2, q, bd_some, bI_wr, bI_t, bI_f, if_neg, if_pos, if_true, if_false, wr_id, chk_t]
      · have q := m_growers sW sF kA (k := a1) (by omega)
        simp (disch := omega) only [md_growers, lt_eq, p1, Mf_isS w2, et, w1, w2, q, bd_some, bI_wr, bI_t, bI_f, if_neg, if_pos, if_true, if_false, wr_id, chk_t]
    · have m0 : Mf h (up h 167 0 0) := Mf_self hI
      have p1 := Mf_isK hI m0 w1
      rw [w1] at p1
      refine ⟨-2, h, -2, up h 167 0 0, ?_, ?_, rfl, m0.1⟩
      · simp (disch := omega) only [sf_growers, c_isKS hI w1 w2, bd_some, bI_wr, bI_t, bI_f, if_neg, if_pos, if_true, if_false, wr_id, chk_t]
      · simp (disch := omega) only [md_growers, lt_eq, p1, Mf_isS w2, w1, w2, bd_some, bI_wr, bI_t, bI_f, if_neg, if_pos, if_true, if_false, wr_id, chk_t]
  · have m0 : Mf h (up h 167 0 0) := Mf_self hI
    have p1 := Mf_isK hI m0 w1
    rw [w1] at p1
    refine ⟨-2, h, -2, up h 167 0 0, ?_, ?_, rfl, m0.1⟩
    · simp (disch := omega) only [sf_growers, c_isKS hI w1 w2, bd_some, bI_wr, bI_t, bI_f, if_neg, if_pos, if_true, if_false, wr_id, chk_t]
    · simp (disch := omega) only [md_growers, lt_eq, p1, w1, bd_some, bI_wr, bI_t, bI_f, if_neg, if_pos, if_true, if_false, wr_id, chk_t]
theorem st_haters : St_haters INV := by
  intro h hI a1 a2 w1 w2
  have b1 := in32 w1
  have b2 := in32 w2
  obtain ⟨_, lK, lL, _, _, lP, _⟩ := INV_l hI
  by_cases g1 : 0 ≤ a1 ∧ a1 < h 9 1
  · by_cases g2 : 0 ≤ a2 ∧ a2 < 13
    · obtain ⟨F, hF⟩ := s_at hI
      have m0 : Mf h (up F 167 0 0) := Mf_0 hF (by omega) (by omega) (by omega)
      obtain ⟨t, et, kB, kA, mt⟩ := Mf_lays m0 (s := a2) (by omega)
      obtain ⟨sW, sF, eK, eL, eP, eN⟩ := Sea_ok hI a2.toNat
      have fs := (hF.2.2.1 a2 g2.1 g2.2).1
      have ca := hF.2.2.2.1 a2.toNat (by omega)
      have p1 := Mf_isK hI m0 w1
      rw [w1] at p1
      refine ⟨bs (haS (Sea h a2.toNat) a1), F, bs (haS (Sea h a2.toNat) a1), t, ?_, ?_, rfl, mt.1⟩
      · have q := c_haters sW ca (by rw [Fil_9 hF, eP]) (k := a1) (by omega)
        simp (disch := omega) only [sf_haters, c_isKS hI w1 w2, fs, ch_s, w1, w2, q, bd_some, bI_wr, bI_t, bI_f, if_neg, if_pos, if_true, if_false, wr_id, chk_t]
      · have q := m_haters sW kA.1 (k := a1) (by omega)
        simp (disch := omega) only [md_haters, lt_eq, p1, Mf_isS w2, et, w1, w2, q, bd_some, bI_wr, bI_t, bI_f, if_neg, if_pos, if_true, if_false, wr_id, chk_t]
    · have m0 : Mf h (up h 167 0 0) := Mf_self hI
      have p1 := Mf_isK hI m0 w1
      rw [w1] at p1
      refine ⟨-2, h, -2, up h 167 0 0, ?_, ?_, rfl, m0.1⟩
      · simp (disch := omega) only [sf_haters, c_isKS hI w1 w2, bd_some, bI_wr, bI_t, bI_f, if_neg, if_pos, if_true, if_false, wr_id, chk_t]
      · simp (disch := omega) only [md_haters, lt_eq, p1, Mf_isS w2, w1, w2, bd_some, bI_wr, bI_t, bI_f, if_neg, if_pos, if_true, if_false, wr_id, chk_t]
  · have m0 : Mf h (up h 167 0 0) := Mf_self hI
    have p1 := Mf_isK hI m0 w1
    rw [w1] at p1
    refine ⟨-2, h, -2, up h 167 0 0, ?_, ?_, rfl, m0.1⟩
    · simp (disch := omega) only [sf_haters, c_isKS hI w1 w2, bd_some, bI_wr, bI_t, bI_f, if_neg, if_pos, if_true, if_false, wr_id, chk_t]
    · simp (disch := omega) only [md_haters, lt_eq, p1, w1, bd_some, bI_wr, bI_t, bI_f, if_neg, if_pos, if_true, if_false, wr_id, chk_t]
theorem st_taste : St_taste INV := by
  intro h hI a1 a2 w1 w2
  have b1 := in32 w1
  have b2 := in32 w2
  obtain ⟨_, lK, lL, _, _, lP, _⟩ := INV_l hI
  have m0 : Mf h (up h 167 0 0) := Mf_self hI
  have p1 := Mf_isP hI m0 w1
  have p2 := Mf_isK hI m0 w2
  rw [w1] at p1
  rw [w2] at p2
  by_cases g1 : 0 ≤ a1 ∧ a1 < h 9 5
  · by_cases g2 : 0 ≤ a2 ∧ a2 < h 9 1
    · have e : 5 * a1 + a2 = a1 * 5 + a2 := by omega
      have nT := (Mf_L0 m0).2.2.2.2.2.2.2.1 (a1 * 5 + a2) (by omega) (by rw [m0.2 9 (by omega) (by omega)]; omega)
      rw [m0.2 10 (by omega) (by omega)] at nT
      refine ⟨h 10 (a1 * 5 + a2), h 10 (a1 * 5 + a2), up h 167 0 0, ?_, ?_, rfl, m0.1⟩
      · simp (disch := omega) only [sf_taste, c_isP hI w1, c_isK hI w2, bd_some, bI_wr, bI_t, bI_f, if_neg, if_pos, if_true, if_false, wr_id, chk_t]
      · simp (disch := omega) only [md_taste, lt_eq, w1, w2, p1, p2, e, nT, bd_some, bI_wr, bI_t, bI_f, if_neg, if_pos, if_true, if_false, wr_id, chk_t]
    · refine ⟨-100, -100, up h 167 0 0, ?_, ?_, rfl, m0.1⟩
      · simp (disch := omega) only [sf_taste, c_isP hI w1, c_isK hI w2, bd_some, bI_wr, bI_t, bI_f, if_neg, if_pos, if_true, if_false, wr_id, chk_t]
      · simp (disch := omega) only [md_taste, lt_eq, w1, w2, p1, p2, bd_some, bI_wr, bI_t, bI_f, if_neg, if_pos, if_true, if_false, wr_id, chk_t]
  · refine ⟨-100, -100, up h 167 0 0, ?_, ?_, rfl, m0.1⟩
    · simp (disch := omega) only [sf_taste, c_isP hI w1, bd_some, bI_wr, bI_t, bI_f, if_neg, if_pos, if_true, if_false, wr_id, chk_t]
    · simp (disch := omega) only [md_taste, lt_eq, w1, p1, bd_some, bI_wr, bI_t, bI_f, if_neg, if_pos, if_true, if_false, wr_id, chk_t]
theorem st_likes : St_likes INV := by
  intro h hI a1 a2 a3 w1 w2 w3
  have b1 := in32 w1
  have b2 := in32 w2
  have b3 := in32 w3
  obtain ⟨_, lK, lL, _, _, lP, _⟩ := INV_l hI
  by_cases g1 : 0 ≤ a1 ∧ a1 < h 9 5
  · by_cases g2 : 0 ≤ a2 ∧ a2 < h 9 1
    · by_cases g3 : 0 ≤ a3 ∧ a3 < 13
      · obtain ⟨F, hF⟩ := s_at hI
        have m0 : Mf h (up F 167 0 0) := Mf_0 hF (by omega) (by omega) (by omega)
        obtain ⟨t, et, kB, kA, mt⟩ := Mf_lays m0 (s := a3) (by omega)
        obtain ⟨sW, sF, eK, eL, eP, eN⟩ := Sea_ok hI a3.toNat
        have fs := (hF.2.2.1 a3 g3.1 g3.2).1
        have ca := hF.2.2.2.1 a3.toNat (by omega)
        have p1 := Mf_isP hI m0 w1
        have p2 := Mf_isK hI m0 w2
        rw [w1] at p1
        rw [w2] at p2
        have q := c_ta ca.1 (p := a1) (k := a2) (by omega) (by omega)
        rw [taS_pos (by omega)] at q
        have q' := m_ta kA.1 (by omega) (p := a1) (k := a2) (by omega) (by omega)
        refine ⟨sT (Sea h a3.toNat) (a1 * 5 + a2), F, sT (Sea h a3.toNat) (a1 * 5 + a2), t, ?_, ?_, rfl, mt.1⟩
        · simp (disch := omega) only [sf_likes, c_isPS hI w1 w3, c_isK hI w2, fs, ch_s, q, bd_some, bI_wr, bI_t, bI_f, if_neg, if_pos, if_true, if_false, wr_id, chk_t]
        · simp (disch := omega) only [md_likes, lt_eq, w1, w2, p1, p2, Mf_isS w3, et, q', bd_some, bI_wr, bI_t, bI_f, if_neg, if_pos, if_true, if_false, wr_id, chk_t]
      · have m0 : Mf h (up h 167 0 0) := Mf_self hI
        have p1 := Mf_isP hI m0 w1
        have p2 := Mf_isK hI m0 w2
        rw [w1] at p1
        rw [w2] at p2
        refine ⟨-100, h, -100, up h 167 0 0, ?_, ?_, rfl, m0.1⟩
        · simp (disch := omega) only [sf_likes, c_isPS hI w1 w3, bd_some, bI_wr, bI_t, bI_f, if_neg, if_pos, if_true, if_false, wr_id, chk_t]
        · simp (disch := omega) only [md_likes, lt_eq, w1, w2, p1, p2, Mf_isS w3, bd_some, bI_wr, bI_t, bI_f, if_neg, if_pos, if_true, if_false, wr_id, chk_t]
    · have m0 : Mf h (up h 167 0 0) := Mf_self hI
      have p1 := Mf_isP hI m0 w1
      have p2 := Mf_isK hI m0 w2
      rw [w1] at p1
      rw [w2] at p2
      refine ⟨-100, h, -100, up h 167 0 0, ?_, ?_, rfl, m0.1⟩
      · by_cases g3 : 0 ≤ a3 ∧ a3 < 13
        · simp (disch := omega) only [sf_likes, c_isPS hI w1 w3, c_isK hI w2, bd_some, bI_wr, bI_t, bI_f, if_neg, if_pos, if_true, if_false, wr_id, chk_t]
        · simp (disch := omega) only [sf_likes, c_isPS hI w1 w3, bd_some, bI_wr, bI_t, bI_f, if_neg, if_pos, if_true, if_false, wr_id, chk_t]
      · simp (disch := omega) only [md_likes, lt_eq, w1, w2, p1, p2, bd_some, bI_wr, bI_t, bI_f, if_neg, if_pos, if_true, if_false, wr_id, chk_t]
  · have m0 : Mf h (up h 167 0 0) := Mf_self hI
    have p1 := Mf_isP hI m0 w1
    rw [w1] at p1
    refine ⟨-100, h, -100, up h 167 0 0, ?_, ?_, rfl, m0.1⟩
    · simp (disch := omega) only [sf_likes, c_isPS hI w1 w3, bd_some, bI_wr, bI_t, bI_f, if_neg, if_pos, if_true, if_false, wr_id, chk_t]
    · simp (disch := omega) only [md_likes, lt_eq, w1, p1, bd_some, bI_wr, bI_t, bI_f, if_neg, if_pos, if_true, if_false, wr_id, chk_t]
