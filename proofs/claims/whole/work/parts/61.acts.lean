/-! Layer 2: acts -/
theorem Bas_L {h h' : Hp} (hB : Bas h) (l0 : L0 h') (l9 : LOk9 h') (e1 : h' 0 1 = h 0 1) (e6 : h' 167 6 = h 167 6) (e14 : h' 167 14 = h 167 14) (e15 : h' 167 15 = h 167 15) (hf : ∀ a, (a = 1 ∨ a = 2 ∨ a = 16 ∨ (37 ≤ a ∧ a ≤ 62) ∨ (168 ≤ a ∧ a ≤ 170) ∨ a = 172 ∨ a = 177) → h' a = h a) (h3 : ∀ j, 1 ≤ j → h' 173 j = h 173 j) (h4 : ∀ j, 6 ≤ j → h' 174 j = h 174 j) (h5 : ∀ j, 30 ≤ j → h' 175 j = h 175 j) (h6 : ∀ j, 160 ≤ j → h' 176 j = h 176 j) : Bas h' := by
  obtain ⟨b1, b2, b3, b4, b5, b6⟩ := hB
  refine ⟨TaR_fr b1 (by rw [hf 1 (by omega)]) e6 (hf 2 (by omega)) (hf 172 (by omega)), FaR_fr b2 (by rw [hf 1 (by omega)]) (by rw [hf 1 (by omega)]) e14 e15, l0, l9, ?_, ?_⟩
  · intro k hk
    exact ImR_fr (b5 k hk) (fun x p q => hf x (by omega)) (h3 _ (by omega)) (fun j _ _ => h4 _ (by omega)) (fun j _ _ => h5 _ (by omega)) (fun j _ _ => h6 _ (by omega)) (by rw [hf 16 (by omega)]) (by rw [hf 177 (by omega)])
  · intro i hi
    exact SlR_fr (b6 i hi) (hf _ (by omega)) (hf _ (by omega)) (by rw [hf 168 (by omega)]) (by rw [hf 169 (by omega)]) (fun j _ _ => by rw [hf 170 (by omega)])
def AcR (t : Hp) (i : Int) : Prop := (t 11 i = 0 → t 176 (4 * i) = 0) ∧ (t 11 i = 1 → t 176 (4 * i) = 2) ∧ (t 11 i = 2 → t 176 (4 * i) = 1) ∧ t 176 (4 * i + 1) = t 12 i ∧ t 176 (4 * i + 2) = t 13 i ∧ t 176 (4 * i + 3) = t 14 i
theorem LOk9_n {h h' : Hp} (hL : LOk9 h) (th : h 9 0 = 1) (e9 : ∀ j, j ≠ 8 → j ≠ 3 → h' 9 j = h 9 j) (e3 : 0 ≤ h' 9 3 ∧ h' 9 3 ≤ 3) (e8 : 0 ≤ h' 9 8 ∧ h' 9 8 ≤ 40) (e10 : h' 10 = h 10) (hA : ActOk (h' 11) (h' 12) (h' 13) (h' 14) (h' 9 8) (h 9 5) (h 9 1)) : LOk9 h' := by
  obtain ⟨l0, l1, l2, l3, l4, l5, l6, l8, lT, lZ, lA, lx, ly⟩ := hL
  unfold LOk9 LOk
  rw [e10, e9 0 (by omega) (by omega), e9 1 (by omega) (by omega), e9 2 (by omega) (by omega), e9 4 (by omega) (by omega), e9 5 (by omega) (by omega), e9 6 (by omega) (by omega)]
  exact ⟨l0, l1, l2, e3, l4, l5, l6, e8, lT, lZ, hA, fun z => by omega, ly⟩
theorem L0_n {h h' : Hp} (hL : L0 h) (e9 : ∀ j, j ≠ 8 → j ≠ 3 → h' 9 j = h 9 j) (e10 : h' 10 = h 10) (e173 : h' 173 0 = h 173 0) (e174 : ∀ j, j ≠ 2 → j ≠ 5 → h' 174 j = h 174 j) (e2 : h' 174 2 = h' 9 3) (e5 : h' 174 5 = h' 9 8) (e175 : h' 175 = h 175) (hA : ∀ i, 0 ≤ i → i < h' 9 8 → AcR h' i) : L0 h' := by
  obtain ⟨n6, n0, n1, n2, n3, n4, n5, nT, nA⟩ := hL
  unfold L0
  rw [e10, e173, e175, e174 0 (by omega) (by omega), e174 1 (by omega) (by omega), e174 3 (by omega) (by omega), e174 4 (by omega) (by omega), e9 1 (by omega) (by omega), e9 2 (by omega) (by omega), e9 4 (by omega) (by omega), e9 5 (by omega) (by omega), e9 6 (by omega) (by omega)]
  exact ⟨n6, n0, n1, e2, n3, n4, e5, nT, hA⟩
theorem st_undo : St_undo INV := by
  intro h hI
  have tc := th_cond hI
  have hL := INV_l hI
  have hL' := hL
  obtain ⟨l0, l1, l2, l3, l4, l5, l6, l8, lT, lZ, lA, lx, ly⟩ := hL'
  have hB := hI.1
  have hL0 := hB.2.2.1
  have nA := hL0.2.2.2.2.2.2.2.2
  have n5 := hL0.2.2.2.2.2.2.1
  by_cases g : h 9 0 = 1
  · by_cases g2 : h 9 8 = 0
    · have m0 : Mf h (up h 167 0 0) := Mf_self hI
      have em := Mf_isF hI m0
      rw [bI_t g] at em
      have e5 : up h 167 0 0 174 5 = 0 := by rw [up_nk (by omega), n5]; exact g2
      refine ⟨-5, h, -5, up h 167 0 0, ?_, ?_, rfl, m0.1⟩
      · unfold sf_undo
        rw [if_neg (by rw [tc]; simp [g]), g2]; rfl
      · simp (disch := omega) only [md_undo, em, e5, bd_some, lt_eq, bI_wr, bI_t, bI_f, if_neg, if_pos, if_true, if_false, wr_id, chk_t]
    · obtain ⟨k, ek⟩ : ∃ k, k = up (up (up h 9 8 (h 9 8 - 1)) 0 11 1) 0 12 1 := ⟨_, rfl⟩
      have e98 : k 9 8 = h 9 8 - 1 := by rw [ek, up_nk (by omega), up_nk (by omega), up_eq]
      have em : md_isField (up k 167 0 0) = some 1 := by
        have q := Mf_isF hI (Mf_self hI (v := 0))
        rw [bI_t g] at q
        have z : up k 167 0 0 173 0 = up h 167 0 0 173 0 := by rw [up_nk (by omega), up_nk (by omega), ek]; simp (disch := omega) only [up_nk]
        unfold md_isField at q ⊢
        rw [z]; exact q
      have e5 : up k 167 0 0 174 5 = h 9 8 := by rw [up_nk (by omega), ek]; simp (disch := omega) only [up_nk]; exact n5
      refine ⟨h 9 8 - 1, k, h 9 8 - 1, up (up k 167 0 0) 174 5 (h 9 8 - 1), ?_, ?_, rfl, ?_⟩
      · unfold sf_undo
        rw [if_neg (by rw [tc]; simp [g]), if_neg (by rw [wr_id (by omega)]; exact g2), lt_eq]
        unfold sf_forgetSeasons
        rw [lt_eq, lt_eq, bd_some, ← ek, e98]
      · simp (disch := omega) only [md_undo, em, e5, up_eq, bd_some, lt_eq, bI_wr, bI_t, bI_f, if_neg, if_pos, if_true, if_false, wr_id, chk_t]
      · have y9 : ∀ j, j ≠ 8 → j ≠ 3 → up (up k 167 0 0) 174 5 (h 9 8 - 1) 9 j = h 9 j := by
          intro j p q
          rw [up_nk (by omega), up_nk (by omega), ek, up_nk (by omega), up_nk (by omega), up_ni p]
        have y93 : up (up k 167 0 0) 174 5 (h 9 8 - 1) 9 3 = h 9 3 := by
          rw [up_nk (by omega), up_nk (by omega), ek, up_nk (by omega), up_nk (by omega), up_ni (by omega)]
        have y98 : up (up k 167 0 0) 174 5 (h 9 8 - 1) 9 8 = h 9 8 - 1 := by
          rw [up_nk (by omega), up_nk (by omega), e98]
        have yf : ∀ a, a ≠ 0 → a ≠ 9 → a ≠ 167 → a ≠ 174 → up (up k 167 0 0) 174 5 (h 9 8 - 1) a = h a := by
          intro a p1 p2 p3 p4
          rw [up_nk p4, up_nk p3, ek, up_nk p1, up_nk p1, up_nk p2]
        refine INV_stale (Bas_L hB (L0_n hL0 y9 (yf 10 (by omega) (by omega) (by omega) (by omega)) (by rw [yf 173 (by omega) (by omega) (by omega) (by omega)]) ?_ ?_ ?_ (yf 175 (by omega) (by omega) (by omega) (by omega)) ?_) (LOk9_n hL g y9 (by rw [y93]; exact l3) (by rw [y98]; omega) (yf 10 (by omega) (by omega) (by omega) (by omega)) ?_) ?_ ?_ ?_ ?_ (fun a ha => yf a (by omega) (by omega) (by omega) (by omega)) (fun j _ => by rw [yf 173 (by omega) (by omega) (by omega) (by omega)]) ?_ (fun j _ => by rw [yf 175 (by omega) (by omega) (by omega) (by omega)]) (fun j _ => by rw [yf 176 (by omega) (by omega) (by omega) (by omega)])) ?_ ?_
        · intro j p q
          rw [up_ni q, up_nk (by omega), ek]; simp (disch := omega) only [up_nk]
        · rw [y93, up_ni (by omega), up_nk (by omega), ek]; simp (disch := omega) only [up_nk]
          exact hL0.2.2.2.1
        · rw [y98, up_eq]
        · intro i p q
          rw [y98] at q
          unfold AcR
          rw [yf 11 (by omega) (by omega) (by omega) (by omega), yf 12 (by omega) (by omega) (by omega) (by omega), yf 13 (by omega) (by omega) (by omega) (by omega), yf 14 (by omega) (by omega) (by omega) (by omega), yf 176 (by omega) (by omega) (by omega) (by omega)]
          exact nA i p (by omega)
        · rw [y98, yf 11 (by omega) (by omega) (by omega) (by omega), yf 12 (by omega) (by omega) (by omega) (by omega), yf 13 (by omega) (by omega) (by omega) (by omega), yf 14 (by omega) (by omega) (by omega) (by omega)]
          intro i p q
          exact lA i p (by omega)
        · rw [up_nk (by omega), up_nk (by omega), ek]; simp (disch := omega) only [up_nk, up_ni]
        · rw [up_nk (by omega), up_ni (by omega), ek]; simp (disch := omega) only [up_nk]
        · rw [up_nk (by omega), up_ni (by omega), ek]; simp (disch := omega) only [up_nk]
        · rw [up_nk (by omega), up_ni (by omega), ek]; simp (disch := omega) only [up_nk]
        · intro j p
          rw [up_ni (by omega), up_nk (by omega), ek]; simp (disch := omega) only [up_nk]
        · rw [up_nk (by omega), up_nk (by omega), ek, up_ni (by omega), up_eq]
        · rw [up_nk (by omega), up_nk (by omega), ek, up_eq]
  · have m0 : Mf h (up h 167 0 0) := Mf_self hI
    refine ⟨-2, h, -2, up h 167 0 0, ?_, ?_, rfl, m0.1⟩
    · unfold sf_undo; rw [if_pos (by rw [tc]; exact g)]
    · simp (disch := omega) only [md_undo, Mf_isF hI m0, bd_some, lt_eq, bI_wr, bI_t, bI_f, if_neg, if_pos, if_true, if_false, wr_id, chk_t]
theorem st_anew : St_anew INV := by
  intro h hI
  have tc := th_cond hI
  have hL := INV_l hI
  have hL' := hL
  obtain ⟨l0, l1, l2, l3, l4, l5, l6, l8, lT, lZ, lA, lx, ly⟩ := hL'
  have hB := hI.1
  have hL0 := hB.2.2.1
  have nA := hL0.2.2.2.2.2.2.2.2
  have n5 := hL0.2.2.2.2.2.2.1
  by_cases g : h 9 0 = 1
  · obtain ⟨k, ek⟩ : ∃ k, k = up (up (up h 9 8 0) 0 11 1) 0 12 1 := ⟨_, rfl⟩
    have e98 : k 9 8 = 0 := by rw [ek, up_nk (by omega), up_nk (by omega), up_eq]
    have em : md_isField (up k 167 0 0) = some 1 := by
      have q := Mf_isF hI (Mf_self hI (v := 0))
      rw [bI_t g] at q
      have z : up k 167 0 0 173 0 = up h 167 0 0 173 0 := by rw [up_nk (by omega), up_nk (by omega), ek]; simp (disch := omega) only [up_nk]
      unfold md_isField at q ⊢
      rw [z]; exact q
    have e5 : up k 167 0 0 174 5 = h 9 8 := by rw [up_nk (by omega), ek]; simp (disch := omega) only [up_nk]; exact n5
    refine ⟨h 9 8, k, h 9 8, up (up k 167 0 0) 174 5 0, ?_, ?_, rfl, ?_⟩
    · unfold sf_anew
      rw [if_neg (by rw [tc]; simp [g]), lt_eq]
      unfold sf_forgetSeasons
      rw [lt_eq, lt_eq, bd_some, ← ek]
    · simp (disch := omega) only [md_anew, em, e5, up_eq, bd_some, lt_eq, bI_wr, bI_t, bI_f, if_neg, if_pos, if_true, if_false, wr_id, chk_t]
    · have y9 : ∀ j, j ≠ 8 → j ≠ 3 → up (up k 167 0 0) 174 5 0 9 j = h 9 j := by
        intro j p q
        rw [up_nk (by omega), up_nk (by omega), ek, up_nk (by omega), up_nk (by omega), up_ni p]
      have y93 : up (up k 167 0 0) 174 5 0 9 3 = h 9 3 := by
        rw [up_nk (by omega), up_nk (by omega), ek, up_nk (by omega), up_nk (by omega), up_ni (by omega)]
      have y98 : up (up k 167 0 0) 174 5 0 9 8 = 0 := by
        rw [up_nk (by omega), up_nk (by omega), e98]
      have yf : ∀ a, a ≠ 0 → a ≠ 9 → a ≠ 167 → a ≠ 174 → up (up k 167 0 0) 174 5 0 a = h a := by
        intro a p1 p2 p3 p4
        rw [up_nk p4, up_nk p3, ek, up_nk p1, up_nk p1, up_nk p2]
      refine INV_stale (Bas_L hB (L0_n hL0 y9 (yf 10 (by omega) (by omega) (by omega) (by omega)) (by rw [yf 173 (by omega) (by omega) (by omega) (by omega)]) ?_ ?_ ?_ (yf 175 (by omega) (by omega) (by omega) (by omega)) ?_) (LOk9_n hL g y9 (by rw [y93]; exact l3) (by rw [y98]; omega) (yf 10 (by omega) (by omega) (by omega) (by omega)) ?_) ?_ ?_ ?_ ?_ (fun a ha => yf a (by omega) (by omega) (by omega) (by omega)) (fun j _ => by rw [yf 173 (by omega) (by omega) (by omega) (by omega)]) ?_ (fun j _ => by rw [yf 175 (by omega) (by omega) (by omega) (by omega)]) (fun j _ => by rw [yf 176 (by omega) (by omega) (by omega) (by omega)])) ?_ ?_
      · intro j p q
        rw [up_ni q, up_nk (by omega), ek]; simp (disch := omega) only [up_nk]
      · rw [y93, up_ni (by omega), up_nk (by omega), ek]; simp (disch := omega) only [up_nk]
        exact hL0.2.2.2.1
      · rw [y98, up_eq]
      · intro i p q
        rw [y98] at q
        omega
      · rw [y98]
        intro i p q
        omega
      · rw [up_nk (by omega), up_nk (by omega), ek]; simp (disch := omega) only [up_nk, up_ni]
      · rw [up_nk (by omega), up_ni (by omega), ek]; simp (disch := omega) only [up_nk]
      · rw [up_nk (by omega), up_ni (by omega), ek]; simp (disch := omega) only [up_nk]
      · rw [up_nk (by omega), up_ni (by omega), ek]; simp (disch := omega) only [up_nk]
      · intro j p
        rw [up_ni (by omega), up_nk (by omega), ek]; simp (disch := omega) only [up_nk]
      · rw [up_nk (by omega), up_nk (by omega), ek, up_ni (by omega), up_eq]
      · rw [up_nk (by omega), up_nk (by omega), ek, up_eq]
  · have m0 : Mf h (up h 167 0 0) := Mf_self hI
    refine ⟨-2, h, -2, up h 167 0 0, ?_, ?_, rfl, m0.1⟩
    · unfold sf_anew; rw [if_pos (by rw [tc]; exact g)]
    · simp (disch := omega) only [md_anew, Mf_isF hI m0, bd_some, lt_eq, bI_wr, bI_t, bI_f, if_neg, if_pos, if_true, if_false, wr_id, chk_t]
theorem st_rate : St_rate INV := by
  intro h hI a1 w1
  have b1 := in32 w1
  have tc := th_cond hI
  have hL := INV_l hI
  have hL' := hL
  obtain ⟨l0, l1, l2, l3, l4, l5, l6, l8, lT, lZ, lA, lx, ly⟩ := hL'
  have hB := hI.1
  have hL0 := hB.2.2.1
  have n2 := hL0.2.2.2.1
  have nA := hL0.2.2.2.2.2.2.2.2
  have n5 := hL0.2.2.2.2.2.2.1
  have m0 : Mf h (up h 167 0 0) := Mf_self hI
  by_cases g : h 9 0 = 1
  · have em := Mf_isF hI m0
    rw [bI_t g] at em
    have q := m_in (t := up h 167 0 0) (a := a1) (x := 0) (y := 3) (by omega) (by omega) (by omega)
    have e5 : up h 167 0 0 174 5 = h 9 8 := by rw [up_nk (by omega)]; exact n5
    by_cases g1 : 0 ≤ a1 ∧ a1 ≤ 3
    · by_cases g2 : 0 < h 9 8
      · refine ⟨-5, h, -5, up h 167 0 0, ?_, ?_, rfl, m0.1⟩
        · unfold sf_rate
          rw [if_neg (by rw [tc]; simp [g])]
          simp (disch := omega) only [bd_some, lt_eq, bI_wr, bI_t, bI_f, if_neg, if_pos, if_true, if_false, wr_id, chk_t]
        · simp (disch := omega) only [md_rate, em, w1, q, e5, bd_some, lt_eq, bI_wr, bI_t, bI_f, if_neg, if_pos, if_true, if_false, wr_id, chk_t]
      · obtain ⟨k, ek⟩ : ∃ k, k = up (up (up h 9 3 a1) 0 11 1) 0 12 1 := ⟨_, rfl⟩
        have em : md_isField (up k 167 0 0) = some 1 := by
          have z : up k 167 0 0 173 0 = up h 167 0 0 173 0 := by rw [up_nk (by omega), up_nk (by omega), ek]; simp (disch := omega) only [up_nk]
          unfold md_isField at em ⊢
          rw [z]; exact em
        have q := m_in (t := up k 167 0 0) (a := a1) (x := 0) (y := 3) (by omega) (by omega) (by omega)
        have e5 : up k 167 0 0 174 5 = h 9 8 := by rw [up_nk (by omega), ek]; simp (disch := omega) only [up_nk]; exact n5
        have e2 : up k 167 0 0 174 2 = h 9 3 := by rw [up_nk (by omega), ek]; simp (disch := omega) only [up_nk]; exact n2
        refine ⟨h 9 3, k, h 9 3, up (up k 167 0 0) 174 2 a1, ?_, ?_, rfl, ?_⟩
        · unfold sf_rate
          rw [if_neg (by rw [tc]; simp [g])]
          unfold sf_forgetSeasons
          simp (disch := omega) only [bd_some, lt_eq, bI_wr, bI_t, bI_f, if_neg, if_pos, if_true, if_false, wr_id, chk_t]
          rw [← ek]
        · simp (disch := omega) only [md_rate, em, w1, q, e5, e2, bd_some, lt_eq, bI_wr, bI_t, bI_f, if_neg, if_pos, if_true, if_false, wr_id, chk_t]
        · have y9 : ∀ j, j ≠ 8 → j ≠ 3 → up (up k 167 0 0) 174 2 a1 9 j = h 9 j := by
            intro j p q
            rw [up_nk (by omega), up_nk (by omega), ek, up_nk (by omega), up_nk (by omega), up_ni q]
          have y93 : up (up k 167 0 0) 174 2 a1 9 3 = a1 := by
            rw [up_nk (by omega), up_nk (by omega), ek, up_nk (by omega), up_nk (by omega), up_eq]
          have y98 : up (up k 167 0 0) 174 2 a1 9 8 = h 9 8 := by
            rw [up_nk (by omega), up_nk (by omega), ek, up_nk (by omega), up_nk (by omega), up_ni (by omega)]
          have yf : ∀ a, a ≠ 0 → a ≠ 9 → a ≠ 167 → a ≠ 174 → up (up k 167 0 0) 174 2 a1 a = h a := by
            intro a p1 p2 p3 p4
            rw [up_nk p4, up_nk p3, ek, up_nk p1, up_nk p1, up_nk p2]
          refine INV_stale (Bas_L hB (L0_n hL0 y9 (yf 10 (by omega) (by omega) (by omega) (by omega)) (by rw [yf 173 (by omega) (by omega) (by omega) (by omega)]) ?_ ?_ ?_ (yf 175 (by omega) (by omega) (by omega) (by omega)) ?_) (LOk9_n hL g y9 (by rw [y93]; exact g1) (by rw [y98]; omega) (yf 10 (by omega) (by omega) (by omega) (by omega)) ?_) ?_ ?_ ?_ ?_ (fun a ha => yf a (by omega) (by omega) (by omega) (by omega)) (fun j _ => by rw [yf 173 (by omega) (by omega) (by omega) (by omega)]) ?_ (fun j _ => by rw [yf 175 (by omega) (by omega) (by omega) (by omega)]) (fun j _ => by rw [yf 176 (by omega) (by omega) (by omega) (by omega)])) ?_ ?_
          · intro j p q
            rw [up_ni p, up_nk (by omega), ek]; simp (disch := omega) only [up_nk]
          · rw [y93, up_eq]
          · rw [y98, up_ni (by omega), up_nk (by omega), ek]; simp (disch := omega) only [up_nk]
            exact n5
          · intro i p q
            rw [y98] at q
            omega
          · rw [y98]
            intro i p q
            omega
          · rw [up_nk (by omega), up_nk (by omega), ek]; simp (disch := omega) only [up_nk, up_ni]
          · rw [up_nk (by omega), up_ni (by omega), ek]; simp (disch := omega) only [up_nk]
          · rw [up_nk (by omega), up_ni (by omega), ek]; simp (disch := omega) only [up_nk]
          · rw [up_nk (by omega), up_ni (by omega), ek]; simp (disch := omega) only [up_nk]
          · intro j p
            rw [up_ni (by omega), up_nk (by omega), ek]; simp (disch := omega) only [up_nk]
          · rw [up_nk (by omega), up_nk (by omega), ek, up_ni (by omega), up_eq]
          · rw [up_nk (by omega), up_nk (by omega), ek, up_eq]
    · refine ⟨-2, h, -2, up h 167 0 0, ?_, ?_, rfl, m0.1⟩
      · unfold sf_rate
        rw [if_neg (by rw [tc]; simp [g])]
        by_cases g3 : 0 ≤ a1
        · simp (disch := omega) only [bd_some, lt_eq, bI_wr, bI_t, bI_f, if_neg, if_pos, if_true, if_false, wr_id, chk_t]
        · simp (disch := omega) only [bd_some, lt_eq, bI_wr, bI_t, bI_f, if_neg, if_pos, if_true, if_false, wr_id, chk_t]
      · simp (disch := omega) only [md_rate, em, w1, q, bd_some, lt_eq, bI_wr, bI_t, bI_f, if_neg, if_pos, if_true, if_false, wr_id, chk_t]
  · refine ⟨-2, h, -2, up h 167 0 0, ?_, ?_, rfl, m0.1⟩
    · unfold sf_rate; rw [if_pos (by rw [tc]; exact g)]
    · simp (disch := omega) only [md_rate, Mf_isF hI m0, bd_some, lt_eq, bI_wr, bI_t, bI_f, if_neg, if_pos, if_true, if_false, wr_id, chk_t]
/-! a new act -/
def adH (h : Hp) (x0 x1 x2 x3 : Int) : Hp := up (up (up (up (up h 11 (h 9 8) x0) 12 (h 9 8) x1) 13 (h 9 8) x2) 14 (h 9 8) x3) 9 8 (h 9 8 + 1)
def fgH (h : Hp) : Hp := up (up h 0 11 1) 0 12 1
def doH (t : Hp) (y0 x1 x2 x3 : Int) : Hp := up (up (up (up (up t 176 (4 * t 174 5) y0) 176 (4 * t 174 5 + 1) x1) 176 (4 * t 174 5 + 2) x2) 176 (4 * t 174 5 + 3) x3) 174 5 (t 174 5 + 1)
theorem c_add {h : Hp} (hn : 0 ≤ h 9 8 ∧ h 9 8 < 40) (x0 x1 x2 x3 : Int) : ld_addAct h 9 x0 x1 x2 x3 = some (1, adH h x0 x1 x2 x3) := by
  have e1 : up h 11 (h 9 8) x0 9 8 = h 9 8 := by rw [up_nk (by omega)]
  have e2 : up (up h 11 (h 9 8) x0) 12 (h 9 8) x1 9 8 = h 9 8 := by rw [up_nk (by omega), up_nk (by omega)]
  have e3 : up (up (up h 11 (h 9 8) x0) 12 (h 9 8) x1) 13 (h 9 8) x2 9 8 = h 9 8 := by rw [up_nk (by omega), up_nk (by omega), up_nk (by omega)]
  have e4 : up (up (up (up h 11 (h 9 8) x0) 12 (h 9 8) x1) 13 (h 9 8) x2) 14 (h 9 8) x3 9 8 = h 9 8 := by rw [up_nk (by omega), up_nk (by omega), up_nk (by omega), up_nk (by omega)]
  unfold adH
  simp (disch := omega) only [ld_addAct, e1, e2, e3, e4, bd_some, lt_eq, bI_wr, bI_t, bI_f, if_neg, if_pos, if_true, if_false, wr_id, chk_t]
theorem m_does {t : Hp} (hn : 0 ≤ t 174 5 ∧ t 174 5 < 40) (y0 x1 x2 x3 : Int) : md_does t y0 x1 x2 x3 = some (doH t y0 x1 x2 x3) := by
  have e4 : up (up (up (up t 176 (4 * t 174 5) y0) 176 (4 * t 174 5 + 1) x1) 176 (4 * t 174 5 + 2) x2) 176 (4 * t 174 5 + 3) x3 174 5 = t 174 5 := by rw [up_nk (by omega), up_nk (by omega), up_nk (by omega), up_nk (by omega)]
  unfold doH
  simp (disch := omega) only [md_does, e4, bd_some, lt_eq, bI_wr, bI_t, bI_f, if_neg, if_pos, if_true, if_false, wr_id, chk_t]
/-- k: as the class leaves it, u: as the model has it ahead of its act -/
theorem INV_act {h k u : Hp} (hI : INV h) {n x0 x1 x2 x3 y0 : Int} (hn : n = h 9 8) (hn4 : n < 40) (th : h 9 0 = 1) (k9 : ∀ j, j ≠ 8 → k 9 j = h 9 j) (k98 : k 9 8 = n + 1) (k10 : k 10 = h 10) (k11 : k 11 n = x0 ∧ ∀ j, j ≠ n → k 11 j = h 11 j) (k12 : k 12 n = x1 ∧ ∀ j, j ≠ n → k 12 j = h 12 j) (k13 : k 13 n = x2 ∧ ∀ j, j ≠ n → k 13 j = h 13 j) (k14 : k 14 n = x3 ∧ ∀ j, j ≠ n → k 14 j = h 14 j) (kf : ∀ a, (a = 1 ∨ a = 2 ∨ a = 16 ∨ (37 ≤ a ∧ a ≤ 62)) → k a = h a) (k1 : k 0 1 = h 0 1) (k0 : k 0 11 = 1 ∧ k 0 12 = 1) (uk : ∀ a, a < 167 → u a = k a) (uf : ∀ a, ((168 ≤ a ∧ a ≤ 170) ∨ (172 ≤ a ∧ a ≤ 177)) → u a = h a) (u6 : u 167 6 = h 167 6) (u14 : u 167 14 = h 167 14) (u15 : u 167 15 = h 167 15) (hx0 : (x0 = 0 ∧ y0 = 0) ∨ (x0 = 1 ∧ y0 = 2) ∨ (x0 = 2 ∧ y0 = 1)) (hx1 : 0 ≤ x1 ∧ x1 < h 9 5) (hx2 : 0 ≤ x2 ∧ (x0 = 0 → x2 < h 9 5) ∧ (x0 ≠ 0 → x2 < h 9 1)) (hx3 : 0 ≤ x3 ∧ x3 ≤ 12) : INV (doH u y0 x1 x2 x3) := by
  have hL := INV_l hI
  have hL' := hL
  obtain ⟨l0, l1, l2, l3, l4, l5, l6, l8, lT, lZ, lA, lx, ly⟩ := hL'
  have hB := hI.1
  have hL0 := hB.2.2.1
  have n2 := hL0.2.2.2.1
  have nA := hL0.2.2.2.2.2.2.2.2
  have n5 := hL0.2.2.2.2.2.2.1
  have u5 : u 174 5 = n := by rw [uf 174 (by omega), n5, hn]
  have yl : ∀ a, a < 167 → doH u y0 x1 x2 x3 a = k a := by
    intro a ha
    unfold doH
    rw [up_nk (by omega), up_nk (by omega), up_nk (by omega), up_nk (by omega), up_nk (by omega)]
    exact uk a ha
  have yf : ∀ a, a ≠ 174 → a ≠ 176 → doH u y0 x1 x2 x3 a = u a := by
    intro a p q
    unfold doH
    rw [up_nk p, up_nk q, up_nk q, up_nk q, up_nk q]
  have y4 : ∀ j, j ≠ 5 → doH u y0 x1 x2 x3 174 j = h 174 j := by
    intro j p
    unfold doH
    rw [up_ni p, up_nk (by omega), up_nk (by omega), up_nk (by omega), up_nk (by omega), uf 174 (by omega)]
  have y45 : doH u y0 x1 x2 x3 174 5 = n + 1 := by
    unfold doH
    rw [up_eq, u5]
  have y6 : doH u y0 x1 x2 x3 176 (4 * n) = y0 ∧ doH u y0 x1 x2 x3 176 (4 * n + 1) = x1 ∧ doH u y0 x1 x2 x3 176 (4 * n + 2) = x2 ∧ doH u y0 x1 x2 x3 176 (4 * n + 3) = x3 ∧ ∀ j, (j < 4 * n ∨ 4 * n + 4 ≤ j) → doH u y0 x1 x2 x3 176 j = h 176 j := by
    unfold doH
    rw [u5]
    refine ⟨?_, ?_, ?_, ?_, ?_⟩
    · rw [up_nk (by omega), up_ni (by omega), up_ni (by omega), up_ni (by omega), up_eq]
    · rw [up_nk (by omega), up_ni (by omega), up_ni (by omega), up_eq]
    · rw [up_nk (by omega), up_ni (by omega), up_eq]
    · rw [up_nk (by omega), up_eq]
    · intro j hj
      rw [up_nk (by omega), up_ni (by omega), up_ni (by omega), up_ni (by omega), up_ni (by omega), uf 176 (by omega)]
  obtain ⟨z0, z1, z2, z3, zf⟩ := y6
  refine INV_stale (Bas_L hB (L0_n hL0 (fun j p _ => by rw [yl 9 (by omega)]; exact k9 j p) (by rw [yl 10 (by omega)]; exact k10) (by rw [yf 173 (by omega) (by omega), uf 173 (by omega)]) (fun j _ q => y4 j q) ?_ ?_ (by rw [yf 175 (by omega) (by omega), uf 175 (by omega)]) ?_) (LOk9_n hL th (fun j p _ => by rw [yl 9 (by omega)]; exact k9 j p) ?_ ?_ (by rw [yl 10 (by omega)]; exact k10) ?_) (by rw [yl 0 (by omega)]; exact k1) (by rw [yf 167 (by omega) (by omega)]; exact u6) (by rw [yf 167 (by omega) (by omega)]; exact u14) (by rw [yf 167 (by omega) (by omega)]; exact u15) ?_ (fun j _ => by rw [yf 173 (by omega) (by omega), uf 173 (by omega)]) (fun j q => y4 j (by omega)) (fun j _ => by rw [yf 175 (by omega) (by omega), uf 175 (by omega)]) (fun j q => zf j (by omega))) (by rw [yl 0 (by omega)]; exact k0.1) (by rw [yl 0 (by omega)]; exact k0.2)
  · rw [y4 2 (by omega), yl 9 (by omega), k9 3 (by omega)]; exact n2
  · rw [y45, yl 9 (by omega), k98]
  · intro i p q
    rw [yl 9 (by omega), k98] at q
    unfold AcR
    rw [yl 11 (by omega), yl 12 (by omega), yl 13 (by omega), yl 14 (by omega)]
    by_cases ei : i = n
    · rw [ei, z0, z1, z2, z3, k11.1, k12.1, k13.1, k14.1]
      refine ⟨?_, ?_, ?_, rfl, rfl, rfl⟩ <;> (intro z; omega)
    · rw [zf (4 * i) (by omega), zf (4 * i + 1) (by omega), zf (4 * i + 2) (by omega), zf (4 * i + 3) (by omega), k11.2 i ei, k12.2 i ei, k13.2 i ei, k14.2 i ei]
      exact nA i p (by omega)
  · rw [yl 9 (by omega), k9 3 (by omega)]; exact l3
  · rw [yl 9 (by omega), k98]; omega
  · rw [yl 9 (by omega), k98, yl 11 (by omega), yl 12 (by omega), yl 13 (by omega), yl 14 (by omega)]
    intro i p q
    by_cases ei : i = n
    · rw [ei, k11.1, k12.1, k13.1, k14.1]
      exact ⟨by omega, hx1, hx2.1, hx2.2.1, hx2.2.2, hx3⟩
    · rw [k11.2 i ei, k12.2 i ei, k13.2 i ei, k14.2 i ei]
      exact lA i p (by omega)
  · intro a ha
    by_cases q : a < 167
    · rw [yl a q]; exact kf a (by omega)
    · rw [yf a (by omega) (by omega)]; exact uf a (by omega)
theorem fg_c (h : Hp) : sf_forgetSeasons h = some (fgH h) := rfl
theorem adF (F : Hp) (x0 x1 x2 x3 : Int) : (∀ j, j ≠ 8 → fgH (adH F x0 x1 x2 x3) 9 j = F 9 j) ∧ fgH (adH F x0 x1 x2 x3) 9 8 = F 9 8 + 1 ∧ (fgH (adH F x0 x1 x2 x3) 11 (F 9 8) = x0 ∧ ∀ j, j ≠ F 9 8 → fgH (adH F x0 x1 x2 x3) 11 j = F 11 j) ∧ (fgH (adH F x0 x1 x2 x3) 12 (F 9 8) = x1 ∧ ∀ j, j ≠ F 9 8 → fgH (adH F x0 x1 x2 x3) 12 j = F 12 j) ∧ (fgH (adH F x0 x1 x2 x3) 13 (F 9 8) = x2 ∧ ∀ j, j ≠ F 9 8 → fgH (adH F x0 x1 x2 x3) 13 j = F 13 j) ∧ (fgH (adH F x0 x1 x2 x3) 14 (F 9 8) = x3 ∧ ∀ j, j ≠ F 9 8 → fgH (adH F x0 x1 x2 x3) 14 j = F 14 j) ∧ (∀ a, a ≠ 0 → a ≠ 9 → (a < 11 ∨ 14 < a) → fgH (adH F x0 x1 x2 x3) a = F a) ∧ fgH (adH F x0 x1 x2 x3) 0 1 = F 0 1 ∧ fgH (adH F x0 x1 x2 x3) 0 11 = 1 ∧ fgH (adH F x0 x1 x2 x3) 0 12 = 1 := by
  unfold fgH adH
  refine ⟨?_, ?_, ⟨?_, ?_⟩, ⟨?_, ?_⟩, ⟨?_, ?_⟩, ⟨?_, ?_⟩, ?_, ?_, ?_, ?_⟩
  · intro j p
    rw [up_nk (by omega), up_nk (by omega), up_ni p]
    simp (disch := omega) only [up_nk]
  · rw [up_nk (by omega), up_nk (by omega), up_eq]
  · simp (disch := omega) only [up_nk, up_eq]
  · intro j p
    simp (disch := omega) only [up_nk, up_ni]
  · simp (disch := omega) only [up_nk, up_eq]
  · intro j p
    simp (disch := omega) only [up_nk, up_ni]
  · simp (disch := omega) only [up_nk, up_eq]
  · intro j p
    simp (disch := omega) only [up_nk, up_ni]
  · simp (disch := omega) only [up_nk, up_eq]
  · intro j p
    simp (disch := omega) only [up_nk, up_ni]
  · intro a p q r
    simp (disch := omega) only [up_nk]
  · rw [up_ni (by omega), up_ni (by omega)]
    simp (disch := omega) only [up_nk]
  · rw [up_ni (by omega), up_eq]
  · rw [up_eq]
theorem st_swap : St_swap INV := by
  intro h hI a1 a2 a3 w1 w2 w3
  have b1 := in32 w1
  have b2 := in32 w2
  have b3 := in32 w3
  have hL' := INV_l hI
  obtain ⟨l0, l1, l2, l3, l4, l5, l6, l8, lT, lZ, lA, lx, ly⟩ := hL'
  have n5 := hI.1.2.2.1.2.2.2.2.2.2.1
  have m0 : Mf h (up h 167 0 0) := Mf_self hI
  have p1 := Mf_isP hI m0 w1
  have p2 := Mf_isP hI m0 w2
  rw [w1] at p1
  rw [w2] at p2
  have p3 := Mf_isS (t := up h 167 0 0) w3
  have e5 : up h 167 0 0 174 5 = h 9 8 := by rw [up_nk (by omega)]; exact n5
  by_cases g1 : 0 ≤ a1 ∧ a1 < h 9 5
  · by_cases g2 : 0 ≤ a2 ∧ a2 < h 9 5
    · by_cases g3 : 0 ≤ a3 ∧ a3 < 13
      · by_cases g4 : h 9 8 < 40
        · have th := there_P hI g1
          have ec := c_add (h := h) (by omega) 0 a1 a2 a3
          obtain ⟨z1, z2, z3, z4, z5, z6, z7, z8, z9⟩ := adF h 0 a1 a2 a3
          obtain ⟨k, ek⟩ : ∃ k, k = fgH (adH h 0 a1 a2 a3) := ⟨_, rfl⟩
          rw [← ek] at z1 z2 z3 z4 z5 z6 z7 z8 z9
          have kk : ∀ a, 167 ≤ a → up k 167 0 0 a = up h 167 0 0 a := by
            intro a ha
            have := z7 a (by omega) (by omega) (by omega)
            funext j
            unfold up
            rw [this]
          have q1 : md_isPerson (up k 167 0 0) a1 = some (bI (0 ≤ a1 ∧ a1 < h 9 5)) := by
            rw [← p1]; unfold md_isPerson md_people md_in; rw [kk 174 (by omega)]
          have q2 : md_isPerson (up k 167 0 0) a2 = some (bI (0 ≤ a2 ∧ a2 < h 9 5)) := by
            rw [← p2]; unfold md_isPerson md_people md_in; rw [kk 174 (by omega)]
          have q3 := Mf_isS (t := up k 167 0 0) w3
          have q5 : up k 167 0 0 174 5 = h 9 8 := by rw [kk 174 (by omega)]; exact e5
          have ed := m_does (t := up k 167 0 0) (by omega) 0 a1 a2 a3
          refine ⟨if a1 = a2 then 0 else 1, k, if a1 = a2 then 0 else 1, doH (up k 167 0 0) 0 a1 a2 a3, ?_, ?_, rfl, ?_⟩
          · simp (disch := omega) only [sf_swap, c_isPS hI w1 w3, c_isP hI w2, ec, fg_c, bd_some, lt_eq, bI_wr, bI_t, if_neg, wr_id, ← ek]
          · simp (disch := omega) only [md_swap, w1, w2, q1, q2, q3, q5, ed, bd_some, lt_eq, bI_wr, bI_t, if_neg, wr_id]
          · refine INV_act hI (n := h 9 8) (x0 := 0) (k := k) rfl g4 th z1 z2 (z7 10 (by omega) (by omega) (by omega)) z3 z4 z5 z6 (fun a ha => z7 a (by omega) (by omega) (by omega)) z8 z9 (fun a ha => up_nk (by omega)) (fun a ha => ?_) ?_ ?_ ?_ (Or.inl ⟨rfl, rfl⟩) g1 ⟨g2.1, fun _ => g2.2, fun z => absurd rfl z⟩ (by omega)
            · rw [up_nk (by omega)]; exact z7 a (by omega) (by omega) (by omega)
            · rw [up_ni (by omega), z7 167 (by omega) (by omega) (by omega)]
            · rw [up_ni (by omega), z7 167 (by omega) (by omega) (by omega)]
            · rw [up_ni (by omega), z7 167 (by omega) (by omega) (by omega)]
        · refine ⟨-5, h, -5, up h 167 0 0, ?_, ?_, rfl, m0.1⟩
          · simp (disch := omega) only [sf_swap, c_isPS hI w1 w3, c_isP hI w2, ld_addAct, bd_some, lt_eq, bI_wr, bI_t, bI_f, if_neg, if_pos, if_true, if_false, wr_id, chk_t]
          · simp (disch := omega) only [md_swap, w1, w2, p1, p2, p3, e5, bd_some, lt_eq, bI_wr, bI_t, bI_f, if_neg, if_pos, if_true, if_false, wr_id, chk_t]
      · refine ⟨-2, h, -2, up h 167 0 0, ?_, ?_, rfl, m0.1⟩
        · simp (disch := omega) only [sf_swap, c_isPS hI w1 w3, bd_some, lt_eq, bI_wr, bI_t, bI_f, if_neg, if_pos, if_true, if_false, wr_id, chk_t]
        · simp (disch := omega) only [md_swap, w1, w2, p1, p2, p3, bd_some, lt_eq, bI_wr, bI_t, bI_f, if_neg, if_pos, if_true, if_false, wr_id, chk_t]
    · refine ⟨-2, h, -2, up h 167 0 0, ?_, ?_, rfl, m0.1⟩
      · by_cases g3 : 0 ≤ a3 ∧ a3 < 13
        · simp (disch := omega) only [sf_swap, c_isPS hI w1 w3, c_isP hI w2, bd_some, lt_eq, bI_wr, bI_t, bI_f, if_neg, if_pos, if_true, if_false, wr_id, chk_t]
        · simp (disch := omega) only [sf_swap, c_isPS hI w1 w3, bd_some, lt_eq, bI_wr, bI_t, bI_f, if_neg, if_pos, if_true, if_false, wr_id, chk_t]
      · simp (disch := omega) only [md_swap, w1, w2, p1, p2, bd_some, lt_eq, bI_wr, bI_t, bI_f, if_neg, if_pos, if_true, if_false, wr_id, chk_t]
  · refine ⟨-2, h, -2, up h 167 0 0, ?_, ?_, rfl, m0.1⟩
    · simp (disch := omega) only [sf_swap, c_isPS hI w1 w3, bd_some, lt_eq, bI_wr, bI_t, bI_f, if_neg, if_pos, if_true, if_false, wr_id, chk_t]
    · simp (disch := omega) only [md_swap, w1, p1, bd_some, lt_eq, bI_wr, bI_t, bI_f, if_neg, if_pos, if_true, if_false, wr_id, chk_t]
