/-! Layer 2: rows of numbers -/
theorem c_isSl {h : Hp} {a : Int} (w : wr a = a) : sf_isSlot h a = some (bI (0 ≤ a ∧ a ≤ 3)) := by
  unfold sf_isSlot bI
  rw [w, show wr 4 = 4 from rfl]
  by_cases q1 : 0 ≤ a
  · by_cases q2 : a < 4
    · rw [if_pos (show 0 ≤ a ∧ a ≤ 3 by omega)]; simp [q1, q2, chk]
    · rw [if_neg (show ¬ (0 ≤ a ∧ a ≤ 3) by omega)]; simp [q1, q2, chk]
  · rw [if_neg (show ¬ (0 ≤ a ∧ a ≤ 3) by omega)]; simp [q1, chk]
theorem m_isSl {t : Hp} {a : Int} (w : wr a = a) : md_isSlot t a = some (bI (0 ≤ a ∧ a ≤ 3)) := by
  have b := in32 w
  unfold md_isSlot
  rw [w, m_in (by omega) (by omega) (by omega), bd_some, chk_t (bI_01 _)]
theorem c_fill {h : Hp} {a n : Nat} (hn : n ≤ 800) (v : Int) : ∃ h', jd_fill_d0a16 h a n v = some h' ∧ (∀ b, b ≠ a → h' b = h b) ∧ ∀ j : Int, 0 ≤ j → j < (n : Int) → h' a j = v := by
  obtain ⟨g, e, r⟩ := lp (body := jd_fill_d0a16_b1 a n v) (s0 := (0, h)) (Q := fun g => (∀ b, b ≠ a → g b = h b) ∧ ∀ j : Int, 0 ≤ j → j < (n : Int) → g a j = v) (fun i s => s.1 = i ∧ (∀ b, b ≠ a → s.2 b = h b) ∧ ∀ j, 0 ≤ j → j < i → s.2 a j = v) (n : Int) (by omega) (by omega) ⟨rfl, fun _ _ => rfl, fun j a b => by omega⟩ (fun i s a' b hi => by
    obtain ⟨c, g⟩ := s
    obtain ⟨q1, q2, q3⟩ := hi
    dsimp only at q1 q2 q3
    subst q1
    refine ⟨(c + 1, up g a c v), ?_, rfl, ?_, ?_⟩
    · simp (disch := omega) only [jd_fill_d0a16_b1, bd_some, lt_eq, bI_wr, bI_t, bI_f, if_neg, if_pos, if_true, if_false, wr_id, chk_t]
    · intro b' h1
      try dsimp only
      rw [up_nk h1]; exact q2 b' h1
    · intro j h1 h2
      try dsimp only
      by_cases ej : j = c
      · rw [ej, up_eq]
      · rw [up_ni ej]; exact q3 j h1 (by omega)) (fun s hi => by
    obtain ⟨c, g⟩ := s
    obtain ⟨q1, q2, q3⟩ := hi
    dsimp only at q1 q2 q3
    subst q1
    exact ⟨g, by simp (disch := omega) only [jd_fill_d0a16_b1, bd_some, lt_eq, bI_wr, bI_t, bI_f, if_neg, if_pos, if_true, if_false, wr_id, chk_t], q2, q3⟩)
  exact ⟨g, by unfold jd_fill_d0a16; rw [e]; rfl, r⟩
theorem m_row0 {t : Hp} {x n : Int} (hx : 0 ≤ x ∧ x ≤ 3) (hn : 0 ≤ n ∧ n ≤ 60) : ∃ t', iter FU (md_row_b1 x n) (0, t) = some t' ∧ (∀ b, b ≠ 170 → t' b = t b) ∧ (∀ j, 0 ≤ j → j < n → t' 170 (60 * x + j) = 0) ∧ ∀ j, (j < 60 * x ∨ 60 * x + n ≤ j) → t' 170 j = t 170 j := by
  refine lp (fun i s => s.1 = i ∧ (∀ b, b ≠ 170 → s.2 b = t b) ∧ (∀ j, 0 ≤ j → j < i → s.2 170 (60 * x + j) = 0) ∧ ∀ j, (j < 60 * x ∨ 60 * x + i ≤ j) → s.2 170 j = t 170 j) n hn.1 (by omega) ⟨rfl, fun _ _ => rfl, fun j a b => by omega, fun _ _ => rfl⟩ (fun i s a b hi => ?_) (fun s hi => ?_)
  · obtain ⟨c, g⟩ := s
    obtain ⟨q1, q2, q3, q4⟩ := hi
    dsimp only at q1 q2 q3 q4
    subst q1
    refine ⟨(c + 1, up g 170 (60 * x + c) 0), ?_, rfl, ?_, ?_, ?_⟩
    · simp (disch := omega) only [md_row_b1, bd_some, lt_eq, bI_wr, bI_t, bI_f, if_neg, if_pos, if_true, if_false, wr_id, chk_t]
    · intro b' h1
      try dsimp only
      rw [up_nk h1]; exact q2 b' h1
    · intro j h1 h2
      try dsimp only
      by_cases ej : j = c
      · rw [ej, up_eq]
      · rw [up_ni (by omega)]; exact q3 j h1 (by omega)
    · intro j h1
      try dsimp only
      rw [up_ni (by omega)]; exact q4 j (by omega)
  · obtain ⟨c, g⟩ := s
    obtain ⟨q1, q2, q3, q4⟩ := hi
    dsimp only at q1 q2 q3 q4
    subst q1
    exact ⟨g, by simp (disch := omega) only [md_row_b1, bd_some, lt_eq, bI_wr, bI_t, bI_f, if_neg, if_pos, if_true, if_false, wr_id, chk_t], q2, q3, q4⟩
/-- all but one slot -/
theorem INV_slot {h h' : Hp} (hI : INV h) {k : Nat} (hk : k < 4) (hs : SlR h' k) (lo : ∀ a, a < 167 → a ≠ 55 + 2 * k → a ≠ 55 + 2 * k + 1 → h' a = h a) (hi : ∀ a, 172 ≤ a → h' a = h a) (h7 : ∀ j, j ≠ 0 → h' 167 j = h 167 j) (h8 : ∀ j, j ≠ (k : Int) → h' 168 j = h 168 j) (h9 : ∀ j, j ≠ (k : Int) → h' 169 j = h 169 j) (h10 : ∀ j, (j < 60 * (k : Int) ∨ 60 * (k : Int) + 60 ≤ j) → h' 170 j = h 170 j) : INV h' := by
  obtain ⟨bT, bF, bL, b9, bI', bS⟩ := hI.1
  refine INV_keep hI ⟨TaR_fr bT (by rw [lo 1 (by omega) (by omega) (by omega)]) (h7 6 (by omega)) (lo 2 (by omega) (by omega) (by omega)) (hi 172 (by omega)), FaR_fr bF (by rw [lo 1 (by omega) (by omega) (by omega)]) (by rw [lo 1 (by omega) (by omega) (by omega)]) (h7 14 (by omega)) (h7 15 (by omega)), L0_fr bL (fun a ha => by
      by_cases z : a < 167
      · exact lo a z (by omega) (by omega)
      · exact hi a (by omega)), L9_fr b9 (fun a ha => lo a (by omega) (by omega) (by omega)), ?_, ?_⟩ (by rw [lo 0 (by omega) (by omega) (by omega)]) (by rw [lo 0 (by omega) (by omega) (by omega)]) (fun a ha => lo a (by omega) (by omega) (by omega))
  · intro i q
    exact ImR_fr (bI' i q) (fun x p q => lo x (by omega) (by omega) (by omega)) (by rw [hi 173 (by omega)]) (fun j _ _ => by rw [hi 174 (by omega)]) (fun j _ _ => by rw [hi 175 (by omega)]) (fun j _ _ => by rw [hi 176 (by omega)]) (by rw [lo 16 (by omega) (by omega) (by omega)]) (by rw [hi 177 (by omega)])
  · intro i q
    by_cases z : i = k
    · rw [z]; exact hs
    · exact SlR_fr (bS i q) (lo _ (by omega) (by omega) (by omega)) (lo _ (by omega) (by omega) (by omega)) (h8 _ (by omega)) (h9 _ (by omega)) (fun j _ _ => h10 _ (by omega))
theorem st_row : St_row INV := by
  intro h hI a1 a2 a3 w1 w2 w3
  have b1 := in32 w1
  have b2 := in32 w2
  have b3 := in32 w3
  have q1 := c_isSl (h := h) w1
  have p1 := m_isSl (t := up h 167 0 0) w1
  have p2 := m_in (t := up h 167 0 0) (a := a2) (x := 0) (y := 3) (by omega) (by omega) (by omega)
  by_cases g1 : 0 ≤ a1 ∧ a1 ≤ 3
  · by_cases g2 : 0 ≤ a2 ∧ a2 ≤ 3
    · by_cases g3 : a3 ≤ 60
      · by_cases g4 : 0 ≤ a3
        · obtain ⟨k, ek⟩ : ∃ k : Nat, k = a1.toNat := ⟨_, rfl⟩
          have e1 : (k : Int) = a1 := by omega
          obtain ⟨H, ec, f1, f2⟩ := c_fill (h := up (up (up h (55 + 2 * k) 0 1) (55 + 2 * k) 1 a2) (55 + 2 * k) 2 a3) (a := 55 + 2 * k + 1) (n := 60) (by omega) 0
          have p1 := m_isSl (t := up H 167 0 0) w1
          have p2 := m_in (t := up H 167 0 0) (a := a2) (x := 0) (y := 3) (by omega) (by omega) (by omega)
          obtain ⟨T, et, t1, t2, t3⟩ := m_row0 (t := up (up (up H 167 0 0) 168 a1 a2) 169 a1 a3) (x := a1) (n := a3) (by omega) (by omega)
          refine ⟨0, H, 0, T, ?_, ?_, rfl, ?_⟩
          · simp (disch := omega) only [sf_row, q1, w1, ← ek, sl_begin, ec, bd_some, lt_eq, bI_wr, bI_t, bI_f, if_neg, if_pos, if_true, if_false, wr_id, chk_t]
          · simp (disch := omega) only [md_row, p1, w1, w2, p2, et, bd_some, lt_eq, bI_wr, bI_t, bI_f, if_neg, if_pos, if_true, if_false, wr_id, chk_t]
          · have lo : ∀ a, a ≠ 55 + 2 * k → a ≠ 55 + 2 * k + 1 → H a = h a := by
              intro a p q
              rw [f1 a q, up_nk p, up_nk p, up_nk p]
            have Hs : H (55 + 2 * k) 0 = 1 ∧ H (55 + 2 * k) 1 = a2 ∧ H (55 + 2 * k) 2 = a3 := by
              rw [f1 _ (by omega)]
              refine ⟨?_, ?_, ?_⟩
              · rw [up_ni (by omega), up_ni (by omega), up_eq]
              · rw [up_ni (by omega), up_eq]
              · rw [up_eq]
            have tl : ∀ a, a ≠ 167 → a ≠ 168 → a ≠ 169 → a ≠ 170 → T a = H a := by
              intro a p q r s
              rw [t1 a s, up_nk r, up_nk q, up_nk p]
            have h170 : up (up (up H 167 0 0) 168 a1 a2) 169 a1 a3 170 = h 170 := by
              rw [up_nk (by omega), up_nk (by omega), up_nk (by omega), lo 170 (by omega) (by omega)]
            refine INV_slot hI (k := k) (by omega) (Or.inr ?_) (fun a p q r => by rw [tl a (by omega) (by omega) (by omega) (by omega), lo a q r]) (fun a p => by rw [tl a (by omega) (by omega) (by omega) (by omega), lo a (by omega) (by omega)]) (fun j p => by rw [t1 _ (by omega), up_nk (by omega), up_nk (by omega), up_ni p, lo 167 (by omega) (by omega)]) (fun j p => by rw [t1 _ (by omega), up_nk (by omega), up_ni (by omega), up_nk (by omega), lo 168 (by omega) (by omega)]) (fun j p => by rw [t1 _ (by omega), up_ni (by omega), up_nk (by omega), up_nk (by omega), lo 169 (by omega) (by omega)]) (fun j p => by rw [t3 j (by omega), h170])
            have T1 : T (55 + 2 * k) = H (55 + 2 * k) := tl _ (by omega) (by omega) (by omega) (by omega)
            have T2 : T (55 + 2 * k + 1) = H (55 + 2 * k + 1) := tl _ (by omega) (by omega) (by omega) (by omega)
            rw [T1, T2, Hs.1, Hs.2.1, Hs.2.2, e1]
            refine ⟨rfl, ?_, by omega, ?_, by omega, ?_⟩
            · rw [t1 _ (by omega), up_nk (by omega), up_eq]
            · rw [t1 _ (by omega), up_eq]
            · intro j p q
              rw [f2 j p (by omega), t2 j p q]
              exact ⟨rfl, rfl⟩
        · refine ⟨-3, h, -3, up h 167 0 0, ?_, ?_, rfl, (Mf_self hI).1⟩
          · simp (disch := omega) only [sf_row, q1, bd_some, lt_eq, bI_wr, bI_t, bI_f, if_neg, if_pos, if_true, if_false, wr_id, chk_t]
          · simp (disch := omega) only [md_row, p1, w2, p2, bd_some, lt_eq, bI_wr, bI_t, bI_f, if_neg, if_pos, if_true, if_false, wr_id, chk_t]
      · refine ⟨-2, h, -2, up h 167 0 0, ?_, ?_, rfl, (Mf_self hI).1⟩
        · simp (disch := omega) only [sf_row, q1, bd_some, lt_eq, bI_wr, bI_t, bI_f, if_neg, if_pos, if_true, if_false, wr_id, chk_t]
        · simp (disch := omega) only [md_row, p1, w2, p2, bd_some, lt_eq, bI_wr, bI_t, bI_f, if_neg, if_pos, if_true, if_false, wr_id, chk_t]
    · refine ⟨-2, h, -2, up h 167 0 0, ?_, ?_, rfl, (Mf_self hI).1⟩
      · by_cases z : 0 ≤ a2
        · simp (disch := omega) only [sf_row, q1, bd_some, lt_eq, bI_wr, bI_t, bI_f, if_neg, if_pos, if_true, if_false, wr_id, chk_t]
        · simp (disch := omega) only [sf_row, q1, bd_some, lt_eq, bI_wr, bI_t, bI_f, if_neg, if_pos, if_true, if_false, wr_id, chk_t]
      · simp (disch := omega) only [md_row, p1, w2, p2, bd_some, lt_eq, bI_wr, bI_t, bI_f, if_neg, if_pos, if_true, if_false, wr_id, chk_t]
  · refine ⟨-2, h, -2, up h 167 0 0, ?_, ?_, rfl, (Mf_self hI).1⟩
    · simp (disch := omega) only [sf_row, q1, bd_some, lt_eq, bI_wr, bI_t, bI_f, if_neg, if_pos, if_true, if_false, wr_id, chk_t]
    · simp (disch := omega) only [md_row, p1, bd_some, lt_eq, bI_wr, bI_t, bI_f, if_neg, if_pos, if_true, if_false, wr_id, chk_t]
def cutv (w x : Int) : Int := if w = 0 then wr (w8 x) else if w = 1 then wr (w16 x) else if w = 2 then wr x else x
theorem wl_lor (a b : Int) : wl (lor64 a b) = lor64 a b := by
  show (Int64.ofInt (Int64.ofInt a ||| Int64.ofInt b).toInt).toInt = _
  rw [Int64.ofInt_toInt]; rfl
theorem cutv_wl {w x : Int} (hx : wl x = x) : wl (cutv w x) = cutv w x := by
  have h1 := wr_in (w8 x)
  have h2 := wr_in (w16 x)
  have h3 := wr_in x
  unfold cutv
  split
  · exact wl_id (by omega)
  · split
    · exact wl_id (by omega)
    · split
      · exact wl_id (by omega)
      · exact hx
theorem st_write : St_write INV := by
  intro h hI a1 a2 a3 a4 w1 w2 w3 w4
  have b1 := in32 w1
  have b2 := in32 w2
  obtain ⟨x, ex⟩ : ∃ x, x = lor64 (lshl64 (wr a3) 32) (land64 (wr a4) 4294967295) := ⟨_, rfl⟩
  rw [← ex]
  have wx : wl x = x := by rw [ex, wl_lor]
  have q1 := c_isSl (h := h) w1
  have p1 := m_isSl (t := up h 167 0 0) w1
  have bS := hI.1.2.2.2.2.2
  by_cases g1 : 0 ≤ a1 ∧ a1 ≤ 3
  · obtain ⟨k, ek⟩ : ∃ k : Nat, k = a1.toNat := ⟨_, rfl⟩
    have e1 : (k : Int) = a1 := by omega
    have e168 : up h 167 0 0 168 = h 168 := up_nk (by omega)
    have e169 : up h 167 0 0 169 = h 169 := up_nk (by omega)
    have hs := bS k (by omega)
    unfold SlR at hs
    rw [e1] at hs
    rcases hs with ⟨s1, s2⟩ | ⟨s1, s2, s3, s4, s5, s6⟩
    · refine ⟨-6, h, -6, up h 167 0 0, ?_, ?_, rfl, (Mf_self hI).1⟩
      · simp (disch := omega) only [sf_write, q1, w1, ← ek, s1, bd_some, lt_eq, bI_wr, bI_t, bI_f, if_neg, if_pos, if_true, if_false, wr_id, chk_t]
      · simp (disch := omega) only [md_write, p1, w1, e168, s2, bd_some, lt_eq, bI_wr, bI_t, bI_f, if_neg, if_pos, if_true, if_false, wr_id, chk_t]
    · by_cases g2 : 0 ≤ a2 ∧ a2 < h (55 + 2 * k) 2
      · obtain ⟨H, eH⟩ : ∃ H, H = up h (55 + 2 * k + 1) a2 (cutv (h (55 + 2 * k) 1) x) := ⟨_, rfl⟩
        have e168 : up H 167 0 0 168 = h 168 := by rw [up_nk (by omega), eH, up_nk (by omega)]
        have e169 : up H 167 0 0 169 = h 169 := by rw [up_nk (by omega), eH, up_nk (by omega)]
        have p1 := m_isSl (t := up H 167 0 0) w1
        have p2 := m_in (t := up H 167 0 0) (a := a2) (x := 0) (y := h (55 + 2 * k) 2 - 1) (by omega) (by omega) (by omega)
        have cc : sl_cut h (55 + 2 * k) x = some (cutv (h (55 + 2 * k) 1) x) := by
          unfold sl_cut cutv
          rw [wr_id (show -2147483648 ≤ h (55 + 2 * k) 1 ∧ h (55 + 2 * k) 1 < 2147483648 by omega)]
          split
          · rfl
          · split
            · rfl
            · split <;> rfl
        have cm : md_cut (up H 167 0 0) x (h (55 + 2 * k) 1) = some (cutv (h (55 + 2 * k) 1) x) := by
          unfold md_cut cutv
          rw [wr_id (show -2147483648 ≤ h (55 + 2 * k) 1 ∧ h (55 + 2 * k) 1 < 2147483648 by omega)]
          rfl
        refine ⟨0, H, 0, up (up H 167 0 0) 170 (60 * a1 + a2) (cutv (h (55 + 2 * k) 1) x), ?_, ?_, rfl, ?_⟩
        · simp (disch := omega) only [sf_write, q1, w1, ← ek, s1, cc, ← eH, bd_some, lt_eq, bI_wr, bI_t, bI_f, if_neg, if_pos, if_true, if_false, wr_id, chk_t]
        · simp (disch := omega) only [md_write, p1, w1, w2, e168, e169, s2, s4, p2, cm, bd_some, lt_eq, bI_wr, bI_t, bI_f, if_neg, if_pos, if_true, if_false, wr_id, chk_t]
        · refine INV_slot hI (k := k) (by omega) (Or.inr ?_) (fun a p q r => by rw [up_nk (by omega), up_nk (by omega), eH, up_nk r]) (fun a p => by rw [up_nk (by omega), up_nk (by omega), eH, up_nk (by omega)]) (fun j p => by rw [up_nk (by omega), up_ni p, eH, up_nk (by omega)]) (fun j p => by rw [up_nk (by omega), e168]) (fun j p => by rw [up_nk (by omega), e169]) (fun j p => by rw [up_ni (by omega), up_nk (by omega), eH, up_nk (by omega)])
          have T1 : up (up H 167 0 0) 170 (60 * a1 + a2) (cutv (h (55 + 2 * k) 1) x) (55 + 2 * k) = h (55 + 2 * k) := by rw [up_nk (by omega), up_nk (by omega), eH, up_nk (by omega)]
          rw [T1, e1, up_nk (show 168 ≠ 170 by omega), up_nk (show 169 ≠ 170 by omega), e168, e169]
          refine ⟨s1, s2, s3, s4, s5, ?_⟩
          intro j p q
          have T2 : up (up H 167 0 0) 170 (60 * a1 + a2) (cutv (h (55 + 2 * k) 1) x) (55 + 2 * k + 1) j = H (55 + 2 * k + 1) j := by rw [up_nk (by omega), up_nk (by omega)]
          rw [T2, eH]
          by_cases ej : j = a2
          · rw [ej, up_eq, up_eq]
            exact ⟨rfl, cutv_wl wx⟩
          · rw [up_ni ej, up_ni (by omega), up_nk (by omega), up_nk (by omega)]
            exact s6 j p q
      · have p2 := m_in (t := up h 167 0 0) (a := a2) (x := 0) (y := h (55 + 2 * k) 2 - 1) (by omega) (by omega) (by omega)
        refine ⟨-7, h, -7, up h 167 0 0, ?_, ?_, rfl, (Mf_self hI).1⟩
        · by_cases z : 0 ≤ a2
          · simp (disch := omega) only [sf_write, q1, w1, ← ek, s1, bd_some, lt_eq, bI_wr, bI_t, bI_f, if_neg, if_pos, if_true, if_false, wr_id, chk_t]
          · simp (disch := omega) only [sf_write, q1, w1, ← ek, s1, bd_some, lt_eq, bI_wr, bI_t, bI_f, if_neg, if_pos, if_true, if_false, wr_id, chk_t]
        · simp (disch := omega) only [md_write, p1, w1, w2, e168, e169, s2, s4, p2, bd_some, lt_eq, bI_wr, bI_t, bI_f, if_neg, if_pos, if_true, if_false, wr_id, chk_t]
  · refine ⟨-2, h, -2, up h 167 0 0, ?_, ?_, rfl, (Mf_self hI).1⟩
    · simp (disch := omega) only [sf_write, q1, bd_some, lt_eq, bI_wr, bI_t, bI_f, if_neg, if_pos, if_true, if_false, wr_id, chk_t]
    · simp (disch := omega) only [md_write, p1, bd_some, lt_eq, bI_wr, bI_t, bI_f, if_neg, if_pos, if_true, if_false, wr_id, chk_t]
theorem c_part {h : Hp} {o : Nat} {x y : Int} (w1 : wr x = x) (w2 : wr y = y) (hl : 0 ≤ h o 2 ∧ h o 2 ≤ 60) : sl_hasPart h o x y = some (bI (0 ≤ x ∧ 0 ≤ y ∧ x + y ≤ h o 2)) := by
  have b1 := in32 w1
  have b2 := in32 w2
  unfold sl_hasPart bI
  rw [w1, w2, wr_id (show -2147483648 ≤ h o 2 ∧ h o 2 < 2147483648 by omega)]
  by_cases q1 : 0 ≤ x
  · by_cases q2 : 0 ≤ y
    · by_cases q3 : x ≤ h o 2
      · rw [wr_id (show -2147483648 ≤ h o 2 - x ∧ h o 2 - x < 2147483648 by omega)]
        by_cases q4 : y ≤ h o 2 - x
        · rw [if_pos (show 0 ≤ x ∧ 0 ≤ y ∧ x + y ≤ h o 2 by omega)]; simp [q1, q2, q3, q4, chk]
        · rw [if_neg (show ¬ (0 ≤ x ∧ 0 ≤ y ∧ x + y ≤ h o 2) by omega)]; simp [q1, q2, q3, q4, chk]
      · rw [if_neg (show ¬ (0 ≤ x ∧ 0 ≤ y ∧ x + y ≤ h o 2) by omega)]; simp [q1, q2, q3, chk]
    · rw [if_neg (show ¬ (0 ≤ x ∧ 0 ≤ y ∧ x + y ≤ h o 2) by omega)]; simp [q1, q2, chk]
  · rw [if_neg (show ¬ (0 ≤ x ∧ 0 ≤ y ∧ x + y ≤ h o 2) by omega)]; simp [q1, chk]
theorem m_past1 {t : Hp} {x i n : Int} (hx : 0 ≤ x ∧ x ≤ 3) (hi : 0 ≤ i ∧ 0 ≤ n ∧ i + n ≤ 60) : ∃ t', iter FU (md_paste_b1 x i n) (0, t) = some t' ∧ (∀ b, b ≠ 171 → t' b = t b) ∧ ∀ j, 0 ≤ j → j < n → t' 171 j = t 170 (60 * x + i + j) := by
  refine lp (fun c s => s.1 = c ∧ (∀ b, b ≠ 171 → s.2 b = t b) ∧ ∀ j, 0 ≤ j → j < c → s.2 171 j = t 170 (60 * x + i + j)) n hi.2.1 (by omega) ⟨rfl, fun _ _ => rfl, fun j a b => by omega⟩ (fun c s a b hI => ?_) (fun s hI => ?_)
  · obtain ⟨c, g⟩ := s
    obtain ⟨q1, q2, q3⟩ := hI
    dsimp only at q1 q2 q3
    subst q1
    have z := q2 170 (by omega)
    refine ⟨(c + 1, up g 171 c (t 170 (60 * x + i + c))), ?_, rfl, ?_, ?_⟩
    · simp (disch := omega) only [md_paste_b1, z, bd_some, lt_eq, bI_wr, bI_t, bI_f, if_neg, if_pos, if_true, if_false, wr_id, chk_t]
    · intro b' h1
      try dsimp only
      rw [up_nk h1]; exact q2 b' h1
    · intro j h1 h2
      try dsimp only
      by_cases ej : j = c
      · rw [ej, up_eq]
      · rw [up_ni (by omega)]; exact q3 j h1 (by omega)
  · obtain ⟨c, g⟩ := s
    obtain ⟨q1, q2, q3⟩ := hI
    dsimp only at q1 q2 q3
    subst q1
    exact ⟨g, by simp (disch := omega) only [md_paste_b1, bd_some, lt_eq, bI_wr, bI_t, bI_f, if_neg, if_pos, if_true, if_false, wr_id, chk_t], q2, q3⟩
theorem m_past2 {t : Hp} {x i n : Int} (hx : 0 ≤ x ∧ x ≤ 3) (hi : 0 ≤ i ∧ 0 ≤ n ∧ i + n ≤ 60) : ∃ t', iter FU (md_paste_b2 x i n) (0, t) = some t' ∧ (∀ b, b ≠ 170 → t' b = t b) ∧ (∀ j, 0 ≤ j → j < n → t' 170 (60 * x + i + j) = t 171 j) ∧ ∀ j, (j < 60 * x + i ∨ 60 * x + i + n ≤ j) → t' 170 j = t 170 j := by
  refine lp (fun c s => s.1 = c ∧ (∀ b, b ≠ 170 → s.2 b = t b) ∧ (∀ j, 0 ≤ j → j < c → s.2 170 (60 * x + i + j) = t 171 j) ∧ ∀ j, (j < 60 * x + i ∨ 60 * x + i + c ≤ j) → s.2 170 j = t 170 j) n hi.2.1 (by omega) ⟨rfl, fun _ _ => rfl, fun j a b => by omega, fun _ _ => rfl⟩ (fun c s a b hI => ?_) (fun s hI => ?_)
  · obtain ⟨c, g⟩ := s
    obtain ⟨q1, q2, q3, q4⟩ := hI
    dsimp only at q1 q2 q3 q4
    subst q1
    have z := q2 171 (by omega)
    refine ⟨(c + 1, up g 170 (60 * x + i + c) (t 171 c)), ?_, rfl, ?_, ?_, ?_⟩
    · simp (disch := omega) only [md_paste_b2, z, bd_some, lt_eq, bI_wr, bI_t, bI_f, if_neg, if_pos, if_true, if_false, wr_id, chk_t]
    · intro b' h1
      try dsimp only
      rw [up_nk h1]; exact q2 b' h1
    · intro j h1 h2
      try dsimp only
      by_cases ej : j = c
      · rw [ej, up_eq]
      · rw [up_ni (by omega)]; exact q3 j h1 (by omega)
    · intro j h1
      try dsimp only
      rw [up_ni (by omega)]; exact q4 j (by omega)
  · obtain ⟨c, g⟩ := s
    obtain ⟨q1, q2, q3, q4⟩ := hI
    dsimp only at q1 q2 q3 q4
    subst q1
    exact ⟨g, by simp (disch := omega) only [md_paste_b2, bd_some, lt_eq, bI_wr, bI_t, bI_f, if_neg, if_pos, if_true, if_false, wr_id, chk_t], q2, q3, q4⟩
theorem c_paste_in {h : Hp} {a1 a2 a3 a4 a5 : Int} (w1 : wr a1 = a1) (w2 : wr a2 = a2) (w3 : wr a3 = a3) (w4 : wr a4 = a4) (w5 : wr a5 = a5) (g1 : 0 ≤ a1 ∧ a1 ≤ 3) (g3 : 0 ≤ a3 ∧ a3 ≤ 3) {k l : Nat} (ek : k = a1.toNat) (el : l = a3.toNat) (s1 : h (55 + 2 * k) 0 = 1) (r1 : h (55 + 2 * l) 0 = 1) (s3 : 0 ≤ h (55 + 2 * k) 1 ∧ h (55 + 2 * k) 1 ≤ 3) (r3 : 0 ≤ h (55 + 2 * l) 1 ∧ h (55 + 2 * l) 1 ≤ 3) (s5 : 0 ≤ h (55 + 2 * k) 2 ∧ h (55 + 2 * k) 2 ≤ 60) (r5 : 0 ≤ h (55 + 2 * l) 2 ∧ h (55 + 2 * l) 2 ≤ 60) : sf_paste h a1 a2 a3 a4 a5 = if h (55 + 2 * k) 1 = h (55 + 2 * l) 1 then (if 0 ≤ a2 ∧ 0 ≤ a4 ∧ 0 ≤ a5 ∧ a2 + a5 ≤ h (55 + 2 * k) 2 ∧ a4 + a5 ≤ h (55 + 2 * l) 2 then some (0, cpy h (55 + 2 * k + 1) (55 + 2 * l + 1) a2 a4 a5) else some (-7, h)) else some (-8, h) := by
  have n1 : ¬ wr 1 = 0 := by decide
  have c1 := c_part (h := h) (o := 55 + 2 * k) w2 w5 s5
  have c2 := c_part (h := h) (o := 55 + 2 * l) w4 w5 r5
  unfold sf_paste
  rw [c_isSl w1, bd_some, bI_t g1, if_neg n1, c_isSl w3, bd_some, bI_t g3, if_neg n1, w1, w3, chk_t (show 0 ≤ a1 ∧ a1 < 4 by omega), chk_t (show 0 ≤ a3 ∧ a3 < 4 by omega), ← ek, ← el, s1, r1, if_neg n1, if_neg n1, wr_id (show -2147483648 ≤ h (55 + 2 * k) 1 ∧ h (55 + 2 * k) 1 < 2147483648 by omega), wr_id (show -2147483648 ≤ h (55 + 2 * l) 1 ∧ h (55 + 2 * l) 1 < 2147483648 by omega)]
  by_cases g5 : h (55 + 2 * k) 1 = h (55 + 2 * l) 1
  · rw [if_pos g5, if_pos g5, c1, bd_some]
    by_cases z : 0 ≤ a2 ∧ 0 ≤ a5 ∧ a2 + a5 ≤ h (55 + 2 * k) 2
    · rw [bI_t z, if_neg n1, c2, bd_some]
      by_cases y : 0 ≤ a4 ∧ 0 ≤ a5 ∧ a4 + a5 ≤ h (55 + 2 * l) 2
      · rw [bI_t y, if_neg n1, w2, w4, w5, chk_t (by omega), lt_eq, if_pos (by omega)]
      · rw [bI_f y, if_pos (show wr 0 = 0 from rfl), if_neg (by omega)]
    · rw [bI_f z, if_pos (show wr 0 = 0 from rfl), if_neg (by omega)]
  · rw [if_neg g5, if_neg g5]
theorem m_paste_in {t : Hp} {a1 a2 a3 a4 a5 : Int} (w1 : wr a1 = a1) (w2 : wr a2 = a2) (w3 : wr a3 = a3) (w4 : wr a4 = a4) (w5 : wr a5 = a5) (g1 : 0 ≤ a1 ∧ a1 ≤ 3) (g3 : 0 ≤ a3 ∧ a3 ≤ 3) {u v x y : Int} (x1 : up t 167 0 0 168 a1 = u) (x3 : up t 167 0 0 168 a3 = v) (hu : 0 ≤ u ∧ u ≤ 3) (hv : 0 ≤ v ∧ v ≤ 3) (y1 : up t 167 0 0 169 a1 = x) (y3 : up t 167 0 0 169 a3 = y) (hx : 0 ≤ x ∧ x ≤ 60) (hy : 0 ≤ y ∧ y ≤ 60) : md_paste t a1 a2 a3 a4 a5 = if u = v then (if 0 ≤ a2 ∧ 0 ≤ a4 ∧ 0 ≤ a5 ∧ a2 + a5 ≤ x ∧ a4 + a5 ≤ y then Option.bind (iter FU (md_paste_b1 a1 a2 a5) (0, up t 167 0 0)) (fun s25 => Option.bind (iter FU (md_paste_b2 a3 a4 a5) (0, s25)) (fun s31 => some (0, s31))) else some (-7, up t 167 0 0)) else some (-8, up t 167 0 0) := by
  have b2 := in32 w2
  have b4 := in32 w4
  have b5 := in32 w5
  have n1 : ¬ wr 1 = 0 := by decide
  have wu : wr u = u := wr_id (by omega)
  have wv : wr v = v := wr_id (by omega)
  have wm : wr (-1) = -1 := rfl
  unfold md_paste
  rw [lt_eq, m_isSl w1, bd_some, bI_t g1, if_neg n1, m_isSl w3, bd_some, bI_t g3, if_neg n1, w1, w3, chk_t (show 0 ≤ a1 ∧ a1 < 4 by omega), x1, wu, wm, if_neg (show ¬ u = -1 by omega), chk_t (show 0 ≤ a3 ∧ a3 < 4 by omega), x3, wv, if_neg (show ¬ v = -1 by omega), chk_t (show 0 ≤ a1 ∧ a1 < 4 by omega), chk_t (show 0 ≤ a3 ∧ a3 < 4 by omega), w2, w4, w5, y1, y3, wr_id (show -2147483648 ≤ x ∧ x < 2147483648 by omega), wr_id (show -2147483648 ≤ y ∧ y < 2147483648 by omega), wl_id (show -9223372036854775808 ≤ a2 + a5 ∧ a2 + a5 < 9223372036854775808 by omega), wl_id (show -9223372036854775808 ≤ a4 + a5 ∧ a4 + a5 < 9223372036854775808 by omega), wl_id (show -9223372036854775808 ≤ x ∧ x < 9223372036854775808 by omega), wl_id (show -9223372036854775808 ≤ y ∧ y < 9223372036854775808 by omega)]
  by_cases g5 : u = v
  · rw [if_pos g5, if_pos g5]
    by_cases z1 : 0 ≤ a2
    · rw [if_pos z1]
      by_cases z2 : 0 ≤ a4
      · rw [if_pos z2]
        by_cases z3 : 0 ≤ a5
        · rw [if_pos z3, chk_t (by omega)]
          by_cases z4 : a2 + a5 ≤ x
          · rw [if_pos z4, chk_t (by omega)]
            by_cases z5 : y < a4 + a5
            · rw [if_pos z5, if_neg (by omega)]
            · rw [if_neg z5, if_pos (by omega)]
          · rw [if_neg z4, if_neg (by omega)]
        · rw [if_neg z3, if_neg (by omega)]
      · rw [if_neg z2, if_neg (by omega)]
    · rw [if_neg z1, if_neg (by omega)]
  · rw [if_neg g5, if_neg g5]
theorem st_paste : St_paste INV := by
  intro h hI a1 a2 a3 a4 a5 w1 w2 w3 w4 w5
  have q1 := c_isSl (h := h) w1
  have q3 := c_isSl (h := h) w3
  have p1 := m_isSl (t := up h 167 0 0) w1
  have p3 := m_isSl (t := up h 167 0 0) w3
  have bS := hI.1.2.2.2.2.2
  have n1 : ¬ wr 1 = 0 := by decide
  have n0 : wr 0 = 0 := rfl
  have e168 : up h 167 0 0 168 = h 168 := up_nk (by omega)
  have e169 : up h 167 0 0 169 = h 169 := up_nk (by omega)
  by_cases g1 : 0 ≤ a1 ∧ a1 ≤ 3
  · by_cases g3 : 0 ≤ a3 ∧ a3 ≤ 3
    · obtain ⟨k, ek⟩ : ∃ k : Nat, k = a1.toNat := ⟨_, rfl⟩
      have e1 : (k : Int) = a1 := by omega
      obtain ⟨l, el⟩ : ∃ l : Nat, l = a3.toNat := ⟨_, rfl⟩
      have e3 : (l : Int) = a3 := by omega
      have hs := bS k (by omega)
      unfold SlR at hs
      rw [e1] at hs
      have hr := bS l (by omega)
      unfold SlR at hr
      rw [e3] at hr
      rcases hs with ⟨s1, s2⟩ | ⟨s1, s2, s3, s4, s5, s6⟩
      · refine ⟨-6, h, -6, up h 167 0 0, ?_, ?_, rfl, (Mf_self hI).1⟩
        · unfold sf_paste
          rw [q1, bd_some, bI_t g1, if_neg n1, q3, bd_some, bI_t g3, if_neg n1, w1, w3, chk_t (show 0 ≤ a1 ∧ a1 < 4 by omega), chk_t (show 0 ≤ a3 ∧ a3 < 4 by omega), ← ek, s1, if_pos n0]
        · unfold md_paste
          rw [lt_eq, p1, bd_some, bI_t g1, if_neg n1, p3, bd_some, bI_t g3, if_neg n1, w1, chk_t (show 0 ≤ a1 ∧ a1 < 4 by omega), e168, s2, if_pos rfl]
      · rcases hr with ⟨r1, r2⟩ | ⟨r1, r2, r3, r4, r5, r6⟩
        · refine ⟨-6, h, -6, up h 167 0 0, ?_, ?_, rfl, (Mf_self hI).1⟩
          · unfold sf_paste
            rw [q1, bd_some, bI_t g1, if_neg n1, q3, bd_some, bI_t g3, if_neg n1, w1, w3, chk_t (show 0 ≤ a1 ∧ a1 < 4 by omega), chk_t (show 0 ≤ a3 ∧ a3 < 4 by omega), ← ek, ← el, s1, if_neg n1, r1, if_pos n0]
          · unfold md_paste
            rw [lt_eq, p1, bd_some, bI_t g1, if_neg n1, p3, bd_some, bI_t g3, if_neg n1, w1, w3, chk_t (show 0 ≤ a1 ∧ a1 < 4 by omega), e168, s2, r2, if_neg (show ¬ wr (h (55 + 2 * k) 1) = wr (-1) by rw [wr_id (by omega), wr_id (by omega)]; omega), chk_t (show 0 ≤ a3 ∧ a3 < 4 by omega), if_pos rfl]
        · have cp := c_paste_in w1 w2 w3 w4 w5 g1 g3 ek el s1 r1 s3 r3 s5 r5
          by_cases g5 : h (55 + 2 * k) 1 = h (55 + 2 * l) 1
          · by_cases g6 : 0 ≤ a2 ∧ 0 ≤ a4 ∧ 0 ≤ a5 ∧ a2 + a5 ≤ h (55 + 2 * k) 2 ∧ a4 + a5 ≤ h (55 + 2 * l) 2
            · obtain ⟨H, eH⟩ : ∃ H, H = cpy h (55 + 2 * k + 1) (55 + 2 * l + 1) a2 a4 a5 := ⟨_, rfl⟩
              have e168 : up H 167 0 0 168 = h 168 := by rw [up_nk (by omega), eH, cpy_nk (by omega)]
              have e169 : up H 167 0 0 169 = h 169 := by rw [up_nk (by omega), eH, cpy_nk (by omega)]
              have e170 : up H 167 0 0 170 = h 170 := by rw [up_nk (by omega), eH, cpy_nk (by omega)]
              obtain ⟨T, et, t1, t2⟩ := m_past1 (t := up H 167 0 0) (x := a1) (i := a2) (n := a5) g1 (by omega)
              obtain ⟨U, eu, u1, u2, u3⟩ := m_past2 (t := T) (x := a3) (i := a4) (n := a5) g3 (by omega)
              have mp := m_paste_in (t := H) w1 w2 w3 w4 w5 g1 g3 (by rw [e168]; exact s2) (by rw [e168]; exact r2) s3 r3 (by rw [e169]; exact s4) (by rw [e169]; exact r4) s5 r5
              refine ⟨0, H, 0, U, ?_, ?_, rfl, ?_⟩
              · rw [cp, if_pos g5, if_pos g6, eH]
              · rw [mp, if_pos g5, if_pos g6, et, bd_some, eu, bd_some]
              · have lo : ∀ a, a ≠ 167 → a ≠ 170 → a ≠ 171 → a ≠ 55 + 2 * l + 1 → U a = h a := by
                  intro a p q r s
                  rw [u1 a q, t1 a r, up_nk p, eH, cpy_nk s]
                refine INV_slot hI (k := l) (by omega) (Or.inr ?_) (fun a p q r => lo a (by omega) (by omega) (by omega) r) (fun a p => lo a (by omega) (by omega) (by omega) (by omega)) (fun j p => by rw [u1 _ (by omega), t1 _ (by omega), up_ni p, eH, cpy_nk (by omega)]) (fun j p => by rw [lo 168 (by omega) (by omega) (by omega) (by omega)]) (fun j p => by rw [lo 169 (by omega) (by omega) (by omega) (by omega)]) (fun j p => by rw [u3 j (by omega), t1 _ (by omega), e170])
                have T1 : U (55 + 2 * l) = h (55 + 2 * l) := lo _ (by omega) (by omega) (by omega) (by omega)
                rw [T1, e3, lo 168 (by omega) (by omega) (by omega) (by omega), lo 169 (by omega) (by omega) (by omega) (by omega)]
                refine ⟨r1, r2, r3, r4, r5, ?_⟩
                intro j p q
                have T2 : U (55 + 2 * l + 1) j = H (55 + 2 * l + 1) j := by rw [u1 _ (by omega), t1 _ (by omega), up_nk (by omega)]
                rw [T2, eH]
                by_cases z : a4 ≤ j ∧ j < a4 + a5
                · rw [cpy_in z]
                  have ej : 60 * a3 + j = 60 * a3 + a4 + (j - a4) := by omega
                  rw [ej, u2 (j - a4) (by omega) (by omega), t2 (j - a4) (by omega) (by omega), e170]
                  have := s6 (a2 + (j - a4)) (by omega) (by omega)
                  have ek' : 60 * a1 + a2 + (j - a4) = 60 * a1 + (a2 + (j - a4)) := by omega
                  rw [ek']
                  exact this
                · rw [cpy_out z, u3 (60 * a3 + j) (by omega), t1 _ (by omega), e170]
                  exact r6 j p q
            · have mp := m_paste_in (t := h) w1 w2 w3 w4 w5 g1 g3 (by rw [e168]; exact s2) (by rw [e168]; exact r2) s3 r3 (by rw [e169]; exact s4) (by rw [e169]; exact r4) s5 r5
              refine ⟨-7, h, -7, up h 167 0 0, ?_, ?_, rfl, (Mf_self hI).1⟩
              · rw [cp, if_pos g5, if_neg g6]
              · rw [mp, if_pos g5, if_neg g6]
          · have mp := m_paste_in (t := h) w1 w2 w3 w4 w5 g1 g3 (by rw [e168]; exact s2) (by rw [e168]; exact r2) s3 r3 (by rw [e169]; exact s4) (by rw [e169]; exact r4) s5 r5
            refine ⟨-8, h, -8, up h 167 0 0, ?_, ?_, rfl, (Mf_self hI).1⟩
            · rw [cp, if_neg g5]
            · rw [mp, if_neg g5]
    · refine ⟨-2, h, -2, up h 167 0 0, ?_, ?_, rfl, (Mf_self hI).1⟩
      · unfold sf_paste
        rw [q1, bd_some, bI_t g1, if_neg n1, q3, bd_some, bI_f g3, if_pos n0]
      · unfold md_paste
        rw [lt_eq, p1, bd_some, bI_t g1, if_neg n1, p3, bd_some, bI_f g3, if_pos n0]
  · refine ⟨-2, h, -2, up h 167 0 0, ?_, ?_, rfl, (Mf_self hI).1⟩
    · unfold sf_paste
      rw [q1, bd_some, bI_f g1, if_pos n0]
    · unfold md_paste
      rw [lt_eq, p1, bd_some, bI_f g1, if_pos n0]
