/-! Layer 2: spoons, all calls -/
theorem hear_or {h : Hp} (hI : INV h) {a1 : Int} (w1 : wr a1 = a1) : (∃ r, (r = -2 ∨ r = -6) ∧ sf_hearSlot h a1 = some (r, h) ∧ ∀ t, Mf h t → (∀ a, 168 ≤ a → a ≤ 170 → t a = h a) → md_whyNot t a1 = some (r, t)) ∨ (∃ k : Nat, k < 4 ∧ (k : Int) = a1 ∧ h 9 0 = 1 ∧ Slo h k ∧ h (55 + 2 * k) 2 % 2 = 0 ∧ ∀ j, 0 ≤ j → j < h (55 + 2 * k) 2 / 2 → gdS h k j = true) := by
  have n1 : ¬ wr 1 = 0 := by decide
  have n0 : wr 0 = 0 := rfl
  have tc := th_cond hI
  have bS := hI.1.2.2.2.2.2
  by_cases g1 : 0 ≤ a1 ∧ a1 ≤ 3
  · by_cases g2 : h 9 0 = 1
    · obtain ⟨k, ek⟩ : ∃ k : Nat, k = a1.toNat := ⟨_, rfl⟩
      have e1 : (k : Int) = a1 := by omega
      have hs := bS k (by omega)
      unfold SlR at hs
      rw [e1] at hs
      rcases hs with ⟨s1, s2⟩ | ⟨s1, s2, s3, s4, s5, s6⟩
      · refine Or.inl ⟨-6, Or.inr rfl, ?_, fun t hM tf => ?_⟩
        · unfold sf_hearSlot
          rw [c_isSl w1, bd_some, bI_t g1, if_neg n1, if_neg (by rw [tc]; simp [g2]), w1, chk_t (by omega), ← ek, s1, if_pos n0]
        · unfold md_whyNot
          rw [m_isSl w1, bd_some, bI_t g1, if_neg n1, Mf_isF hI hM, bd_some, bI_t g2, if_neg n1, w1, chk_t (by omega), tf 168 (by omega) (by omega), s2, if_pos rfl]
      · have c1 : ∀ X Y : Option (Int × Hp), (if wr (irm (h (55 + 2 * k) 2) 2) = 0 then X else Y) = if h (55 + 2 * k) 2 % 2 = 0 then X else Y := by
          intro X Y
          rw [irm_id (by omega) (by omega), w32 (by omega)]
        have hS : Slo h k := ⟨s1, s5, by rw [e1]; exact s4, fun j a b => by rw [e1]; exact ⟨(s6 j a b).1.symm, (s6 j a b).2⟩⟩
        have nm : ¬ wr (h 168 a1) = wr (-1) := by rw [s2, w32 (by omega), show wr (-1) = -1 from rfl]; omega
        by_cases g3 : h (55 + 2 * k) 2 % 2 = 0
        · obtain ⟨r, e, q⟩ := c_hearC hI (by omega) ek w1 hS g3
          rcases q with ⟨q1, q2⟩ | ⟨q1, q2⟩
          · exact Or.inr ⟨k, by omega, e1, g2, hS, g3, q2⟩
          · refine Or.inl ⟨-2, Or.inl rfl, ?_, fun t hM tf => ?_⟩
            · unfold sf_hearSlot
              rw [c_isSl w1, bd_some, bI_t g1, if_neg n1, if_neg (by rw [tc]; simp [g2]), e, w1, chk_t (by omega), ← ek, s1, if_neg n1, c1, if_pos g3, bd_some, q1]
            · obtain ⟨r', e', q'⟩ := m_whyC hI hM (by omega) e1 w1 hS g3 (tf 169 (by omega) (by omega)) (tf 170 (by omega) (by omega))
              rcases q' with ⟨z1, z2⟩ | ⟨z1, z2⟩
              · obtain ⟨j, j1, j2, j3⟩ := q2
                have := z2 j j1 j2
                rw [j3] at this
                exact absurd this (by simp)
              · unfold md_whyNot
                rw [m_isSl w1, bd_some, bI_t g1, if_neg n1, Mf_isF hI hM, bd_some, bI_t g2, if_neg n1, e', w1, chk_t (by omega), tf 168 (by omega) (by omega), if_neg nm, chk_t (by omega), tf 169 (by omega) (by omega), s4, c1, if_pos g3, bd_some, z1]
        · refine Or.inl ⟨-2, Or.inl rfl, ?_, fun t hM tf => ?_⟩
          · unfold sf_hearSlot
            rw [c_isSl w1, bd_some, bI_t g1, if_neg n1, if_neg (by rw [tc]; simp [g2]), w1, chk_t (by omega), ← ek, s1, if_neg n1, c1, if_neg g3]
          · unfold md_whyNot
            rw [m_isSl w1, bd_some, bI_t g1, if_neg n1, Mf_isF hI hM, bd_some, bI_t g2, if_neg n1, w1, chk_t (by omega), tf 168 (by omega) (by omega), if_neg nm, chk_t (by omega), tf 169 (by omega) (by omega), s4, c1, if_neg g3]
    · refine Or.inl ⟨-2, Or.inl rfl, ?_, fun t hM tf => ?_⟩
      · unfold sf_hearSlot
        rw [c_isSl w1, bd_some, bI_t g1, if_neg n1, if_pos (by rw [tc]; exact g2)]
      · unfold md_whyNot
        rw [m_isSl w1, bd_some, bI_t g1, if_neg n1, Mf_isF hI hM, bd_some, bI_f g2, if_pos n0]
  · refine Or.inl ⟨-2, Or.inl rfl, ?_, fun t hM tf => ?_⟩
    · unfold sf_hearSlot
      rw [c_isSl w1, bd_some, bI_f g1, if_pos n0]
    · unfold md_whyNot
      rw [m_isSl w1, bd_some, bI_f g1, if_pos n0]
theorem hear_c {h : Hp} (hI : INV h) {a1 : Int} (w1 : wr a1 = a1) {k : Nat} (hk : k < 4) (e1 : (k : Int) = a1) (g2 : h 9 0 = 1) (hS : Slo h k) (g3 : h (55 + 2 * k) 2 % 2 = 0) (hg : ∀ j, 0 ≤ j → j < h (55 + 2 * k) 2 / 2 → gdS h k j = true) : ∃ m, sf_hearSlot h a1 = some (0, m) ∧ Tbl h k m ∧ Mf h m ∧ ∀ a, 168 ≤ a → a ≤ 170 → m a = h a := by
  have n1 : ¬ wr 1 = 0 := by decide
  have tc := th_cond hI
  have ek : k = a1.toNat := by omega
  obtain ⟨g, m, x1, x2, x3, x4, x5⟩ := c_hearT hI (Mf_rfl hI) (fun _ _ _ => rfl) hk hS g3 hg
  refine ⟨m, ?_, x3, x4, fun a p q => x5 a (by omega)⟩
  obtain ⟨r, e, q⟩ := c_hearC hI hk ek w1 hS g3
  rcases q with ⟨q1, q2⟩ | ⟨q1, j, j1, j2, j3⟩
  · unfold sf_hearSlot
    rw [c_isSl w1, bd_some, bI_t (by omega), if_neg n1, if_neg (by rw [tc]; simp [g2]), e, w1, chk_t (by omega), ← ek, hS.1, if_neg n1, if_pos (by rw [irm_id (by have := hS.2.1; omega) (by omega), w32 (by omega)]; exact g3), bd_some, q1]
    dsimp only
    rw [x1, bd_some, x2, bd_some]
  · have := hg j j1 j2
    rw [j3] at this
    exact absurd this (by simp)
theorem hear_m {h t : Hp} (hI : INV h) (hM : Mf h t) {a1 : Int} (w1 : wr a1 = a1) {k : Nat} (hk : k < 4) (e1 : (k : Int) = a1) (g2 : h 9 0 = 1) (hS : Slo h k) (g3 : h (55 + 2 * k) 2 % 2 = 0) (hg : ∀ j, 0 ≤ j → j < h (55 + 2 * k) 2 / 2 → gdS h k j = true) (tf : ∀ a, 168 ≤ a → a ≤ 170 → t a = h a) : ∃ u, md_whyNot t a1 = some (0, u) ∧ TT h u ∧ Mf h u ∧ u 169 = h 169 ∧ u 170 = h 170 := by
  have n1 : ¬ wr 1 = 0 := by decide
  have bS := hI.1.2.2.2.2.2 k hk
  unfold SlR at bS
  have nm : ¬ wr (h 168 a1) = wr (-1) := by
    rcases bS with ⟨s1, _⟩ | ⟨_, s2, s3, _⟩
    · have := hS.1; omega
    · rw [e1] at s2
      rw [s2, w32 (by omega), show wr (-1) = -1 from rfl]; omega
  obtain ⟨G, x1, _, fr⟩ := m_begins0 (Mf_L0 hM) (Mf_L9 hM)
  have mG : Mf h G := Mf_fx hM (FX_Fr fr)
  obtain ⟨u, y1, y2, y3⟩ := m_told mG (B := md_whyNot_b2) (fun c m a b => by
    unfold md_whyNot_b2
    dsimp only
    rw [w32 (show -1000000 ≤ c ∧ c ≤ 1000000 by omega), show wr 30 = 30 from rfl, if_pos b, chk_t (by omega), chk_t (by omega), lt_eq]) (fun m => by
    unfold md_whyNot_b2
    dsimp only
    rw [if_neg (by decide)])
  obtain ⟨uT, uM⟩ := m_TT hI mG y2 y3
  refine ⟨u, ?_, uT, uM, by rw [y2 169 (by omega), fr.1 169 (by omega) (by omega)]; exact tf 169 (by omega) (by omega), by rw [y2 170 (by omega), fr.1 170 (by omega) (by omega)]; exact tf 170 (by omega) (by omega)⟩
  obtain ⟨r, e, q⟩ := m_whyC hI hM hk e1 w1 hS g3 (tf 169 (by omega) (by omega)) (tf 170 (by omega) (by omega))
  rcases q with ⟨q1, q2⟩ | ⟨q1, j, j1, j2, j3⟩
  · have s3 := hS.2.2.1
    rw [e1] at s3
    unfold md_whyNot
    rw [m_isSl w1, bd_some, bI_t (by omega), if_neg n1, Mf_isF hI hM, bd_some, bI_t g2, if_neg n1, e, w1, chk_t (by omega), tf 168 (by omega) (by omega), if_neg nm, chk_t (by omega), tf 169 (by omega) (by omega), s3, if_pos (by rw [irm_id (by have := hS.2.1; omega) (by omega), w32 (by omega)]; exact g3), bd_some, q1]
    dsimp only
    rw [x1, bd_some, y1, bd_some]
  · have := hg j j1 j2
    rw [j3] at this
    exact absurd this (by simp)
theorem up_168 {h m : Hp} (hf : ∀ a, 168 ≤ a → a ≤ 170 → m a = h a) {j v : Int} : ∀ a, 168 ≤ a → a ≤ 170 → up m 167 j v a = h a := fun a p q => by rw [up_nk (by omega)]; exact hf a p q
theorem wr26 {r : Int} (hr : r = -2 ∨ r = -6) : ¬ wr r = 0 := by rcases hr with e | e <;> (rw [e]; decide)
theorem st_spoons : St_spoons INV := by
  intro h hI a1 w1
  have n0 : wr 0 = 0 := rfl
  rcases hear_or hI w1 with ⟨r, hr, ec, em⟩ | ⟨k, hk, e1, g2, hS, g3, hg⟩
  · have m0 : Mf h (up h 167 0 0) := Mf_self hI
    have em := em _ m0 (up_168 (fun _ _ _ => rfl))
    refine ⟨r, h, r, up h 167 0 0, ?_, ?_, rfl, m0.1⟩
    · unfold sf_spoons
      rw [ec, bd_some, if_neg (wr26 hr)]
    · unfold md_spoons
      rw [lt_eq, em, bd_some, if_neg (wr26 hr)]
  · obtain ⟨m, ec, hT, hM, hf⟩ := hear_c hI w1 hk e1 g2 hS g3 hg
    have m0 : Mf h (up m 167 0 0) := Mf_up hM (by omega) (by omega) (by omega)
    obtain ⟨u, eu, uT, uM, u9, u0⟩ := hear_m hI m0 w1 hk e1 g2 hS g3 hg (up_168 hf)
    obtain ⟨s, es, s1, s2, s3, s4, s5⟩ := m_laySp hI uM uT hk e1 w1 hS g3 hg u9 u0
    have sM : Mf h s := Mf_fx uM ⟨fun a ha => s1 a (by unfold scr at ha; omega), s2 6 (by omega), s2 14 (by omega), s2 15 (by omega)⟩
    refine ⟨ctF h k (ishl 1 (h 9 1)), m, ctF h k (ishl 1 (h 9 1)), s, ?_, ?_, rfl, sM.1⟩
    · unfold sf_spoons
      rw [ec, bd_some]
      dsimp only
      rw [if_pos n0, hT.2.2.2.1]
    · unfold md_spoons
      rw [lt_eq, eu, bd_some]
      dsimp only
      rw [if_pos n0, es, bd_some, s3]
theorem st_surely : St_surely INV := by
  intro h hI a1 w1
  have n0 : wr 0 = 0 := rfl
  have lK := (INV_l hI).2.1
  have pw := pow_in (h 9 1) lK.1 (by omega)
  rcases hear_or hI w1 with ⟨r, hr, ec, em⟩ | ⟨k, hk, e1, g2, hS, g3, hg⟩
  · have m0 : Mf h (up h 167 0 0) := Mf_self hI
    have em := em _ m0 (up_168 (fun _ _ _ => rfl))
    refine ⟨r, h, r, up h 167 0 0, ?_, ?_, rfl, m0.1⟩
    · unfold sf_surely
      rw [ec, bd_some, if_neg (wr26 hr)]
    · unfold md_surely
      rw [lt_eq, em, bd_some, if_neg (wr26 hr)]
  · obtain ⟨m, ec, hT, hM, hf⟩ := hear_c hI w1 hk e1 g2 hS g3 hg
    have m0 : Mf h (up m 167 0 0) := Mf_up hM (by omega) (by omega) (by omega)
    obtain ⟨u, eu, uT, uM, u9, u0⟩ := hear_m hI m0 w1 hk e1 g2 hS g3 hg (up_168 hf)
    obtain ⟨s, es, s1, s2, s3, s4, s5⟩ := m_laySp hI uM uT hk e1 w1 hS g3 hg u9 u0
    have sM : Mf h s := Mf_fx uM ⟨fun a ha => s1 a (by unfold scr at ha; omega), s2 6 (by omega), s2 14 (by omega), s2 15 (by omega)⟩
    have ci := ctF_in h k (n := ishl 1 (h 9 1)) (by omega)
    refine ⟨if ctF h k (ishl 1 (h 9 1)) = 0 then -1 else alI h k (ishl 1 (h 9 1)), m, if ctF h k (ishl 1 (h 9 1)) = 0 then -1 else alI h k (ishl 1 (h 9 1)), s, ?_, ?_, rfl, sM.1⟩
    · unfold sf_surely
      rw [ec, bd_some]
      dsimp only
      rw [if_pos n0, c_inAll hI hT, bd_some]
      simp only [hT.2.2.2.1]
      rw [w32 (show -1000000 ≤ ctF h k (ishl 1 (h 9 1)) ∧ ctF h k (ishl 1 (h 9 1)) ≤ 1000000 by omega)]
      by_cases y : ctF h k (ishl 1 (h 9 1)) = 0
      · rw [if_pos y, if_pos y, bd_some]
      · rw [if_neg y, if_neg y, bd_some]
    · unfold md_surely
      rw [lt_eq, eu, bd_some]
      dsimp only
      rw [if_pos n0, es, bd_some, s3, s4, w32 (show -1000000 ≤ ctF h k (ishl 1 (h 9 1)) ∧ ctF h k (ishl 1 (h 9 1)) ≤ 1000000 by omega)]
theorem st_never : St_never INV := by
  intro h hI a1 w1
  have n0 : wr 0 = 0 := rfl
  have lK := (INV_l hI).2.1
  have pw := pow_in (h 9 1) lK.1 (by omega)
  rcases hear_or hI w1 with ⟨r, hr, ec, em⟩ | ⟨k, hk, e1, g2, hS, g3, hg⟩
  · have m0 : Mf h (up h 167 0 0) := Mf_self hI
    have em := em _ m0 (up_168 (fun _ _ _ => rfl))
    refine ⟨r, h, r, up h 167 0 0, ?_, ?_, rfl, m0.1⟩
    · unfold sf_never
      rw [ec, bd_some, if_neg (wr26 hr)]
    · unfold md_never
      rw [lt_eq, em, bd_some, if_neg (wr26 hr)]
  · obtain ⟨m, ec, hT, hM, hf⟩ := hear_c hI w1 hk e1 g2 hS g3 hg
    have m0 : Mf h (up m 167 0 0) := Mf_up hM (by omega) (by omega) (by omega)
    obtain ⟨u, eu, uT, uM, u9, u0⟩ := hear_m hI m0 w1 hk e1 g2 hS g3 hg (up_168 hf)
    obtain ⟨s, es, s1, s2, s3, s4, s5⟩ := m_laySp hI uM uT hk e1 w1 hS g3 hg u9 u0
    have sM : Mf h s := Mf_fx uM ⟨fun a ha => s1 a (by unfold scr at ha; omega), s2 6 (by omega), s2 14 (by omega), s2 15 (by omega)⟩
    have ci := ctF_in h k (n := ishl 1 (h 9 1)) (by omega)
    have k0 : s 174 0 = h 9 1 := by rw [s1 174 (by omega)]; exact uT.1
    refine ⟨if ctF h k (ishl 1 (h 9 1)) = 0 then -1 else iand (ishl 1 (h 9 1) - 1) (ixor (ayI h k (ishl 1 (h 9 1))) (-1)), m, if ctF h k (ishl 1 (h 9 1)) = 0 then -1 else iand (ishl 1 (h 9 1) - 1) (ixor (ayI h k (ishl 1 (h 9 1))) (-1)), s, ?_, ?_, rfl, sM.1⟩
    · unfold sf_never
      rw [ec, bd_some]
      dsimp only
      rw [if_pos n0, c_inNone hI hT, bd_some]
      simp only [hT.2.2.2.1]
      rw [w32 (show -1000000 ≤ ctF h k (ishl 1 (h 9 1)) ∧ ctF h k (ishl 1 (h 9 1)) ≤ 1000000 by omega)]
      by_cases y : ctF h k (ishl 1 (h 9 1)) = 0
      · rw [if_pos y, if_pos y, bd_some]
      · rw [if_neg y, if_neg y, bd_some]
    · unfold md_never md_kindsAll
      rw [lt_eq, eu, bd_some]
      dsimp only
      rw [if_pos n0, es, bd_some, s3, s5, k0, bd_some, w32 (show -1000000 ≤ ctF h k (ishl 1 (h 9 1)) ∧ ctF h k (ishl 1 (h 9 1)) ≤ 1000000 by omega)]
      by_cases y : ctF h k (ishl 1 (h 9 1)) = 0
      · rw [if_pos y, if_pos y, bd_some]
      · rw [if_neg y, if_neg y, bd_some]
theorem st_ask : St_ask INV := by
  intro h hI a1 w1
  have n0 : wr 0 = 0 := rfl
  rcases hear_or hI w1 with ⟨r, hr, ec, em⟩ | ⟨k, hk, e1, g2, hS, g3, hg⟩
  · have m0 : Mf h (up h 167 0 0) := Mf_self hI
    have em := em _ m0 (up_168 (fun _ _ _ => rfl))
    refine ⟨r, h, r, up h 167 0 0, ?_, ?_, rfl, m0.1⟩
    · unfold sf_ask
      rw [ec, bd_some, if_neg (wr26 hr), bd_some]
    · unfold md_ask
      rw [lt_eq, em, bd_some, if_neg (wr26 hr)]
  · obtain ⟨m, ec, hT, hM, hf⟩ := hear_c hI w1 hk e1 g2 hS g3 hg
    obtain ⟨m2, e2, f2⟩ := c_best hI hT
    have m0 : Mf h (up m2 167 0 0) := Mf_up (Mf_35 hM f2) (by omega) (by omega) (by omega)
    obtain ⟨u, eu, uT, uM, u9, u0⟩ := hear_m hI m0 w1 hk e1 g2 hS g3 hg (up_168 (fun a p q => by rw [f2 a (by omega)]; exact hf a p q))
    obtain ⟨s, es, sM, s1, s2⟩ := m_layAsk hI uM uT hk e1 w1 hS g3 hg u9 u0
    refine ⟨(baI h k (h 9 5)).1, m2, (baI h k (h 9 5)).1, s, ?_, ?_, rfl, sM.1⟩
    · unfold sf_ask
      rw [ec, bd_some]
      dsimp only
      rw [if_pos n0, e2, bd_some, bd_some]
    · unfold md_ask
      rw [lt_eq, eu, bd_some]
      dsimp only
      rw [if_pos n0, es, bd_some, s1]
theorem st_leaves : St_leaves INV := by
  intro h hI a1 w1
  have n0 : wr 0 = 0 := rfl
  have lP := (INV_l hI).2.2.2.2.2.1
  rcases hear_or hI w1 with ⟨r, hr, ec, em⟩ | ⟨k, hk, e1, g2, hS, g3, hg⟩
  · have m0 : Mf h (up h 167 0 0) := Mf_self hI
    have em := em _ m0 (up_168 (fun _ _ _ => rfl))
    refine ⟨r, h, r, up h 167 0 0, ?_, ?_, rfl, m0.1⟩
    · unfold sf_leaves
      rw [ec, bd_some, if_neg (wr26 hr)]
    · unfold md_leaves
      rw [lt_eq, em, bd_some, if_neg (wr26 hr)]
  · obtain ⟨m, ec, hT, hM, hf⟩ := hear_c hI w1 hk e1 g2 hS g3 hg
    obtain ⟨m2, e2, f2⟩ := c_best hI hT
    have hT2 : Tbl h k m2 := Tbl_fr hT f2
    have bi := baI_in (h := h) (k := k) hI lP.1
    obtain ⟨m3, e3, f3⟩ : ∃ m3, (if (baI h k (h 9 5)).1 = -1 then some (ctF h k (ishl 1 (h 9 1)), m2) else Option.bind (sp_worstBehind m2 (baI h k (h 9 5)).1) (fun r5 => some (r5.1, r5.2))) = some ((baI h k (h 9 5)).2, m3) ∧ ∀ a, a ≠ 35 → m3 a = m2 a := by
      rcases bi.2 with ⟨q1, q2⟩ | ⟨q1, q2, q3⟩
      · exact ⟨m2, by rw [if_pos q1, q2], fun _ _ => rfl⟩
      · obtain ⟨m3, x1, x2⟩ := c_worst hI hT2 ⟨q1, q2⟩
        exact ⟨m3, by rw [if_neg (by omega), x1, bd_some, q3], x2⟩
    have m0 : Mf h (up m3 167 0 0) := Mf_up (Mf_35 (Mf_35 hM f2) f3) (by omega) (by omega) (by omega)
    obtain ⟨u, eu, uT, uM, u9, u0⟩ := hear_m hI m0 w1 hk e1 g2 hS g3 hg (up_168 (fun a p q => by rw [f3 a (by omega), f2 a (by omega)]; exact hf a p q))
    obtain ⟨s, es, sM, s1, s2⟩ := m_layAsk hI uM uT hk e1 w1 hS g3 hg u9 u0
    refine ⟨(baI h k (h 9 5)).2, m3, (baI h k (h 9 5)).2, s, ?_, ?_, rfl, sM.1⟩
    · unfold sf_leaves
      rw [ec, bd_some]
      dsimp only
      rw [if_pos n0, e2, bd_some]
      dsimp only
      rw [hT2.2.2.2.1, w32 (show -1000000 ≤ (baI h k (h 9 5)).1 ∧ (baI h k (h 9 5)).1 ≤ 1000000 by rcases bi.2 with ⟨q1, q2⟩ | ⟨q1, q2, q3⟩ <;> omega), show wr (-1) = -1 from rfl, e3, bd_some]
    · unfold md_leaves
      rw [lt_eq, eu, bd_some]
      dsimp only
      rw [if_pos n0, es, bd_some, s2]
