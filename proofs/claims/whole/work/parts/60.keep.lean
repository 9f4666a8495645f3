/-! Layer 2: calls that change what is kept: the text, acts -/
theorem TaR_fr {h h' : Hp} (a : TaR h) (h1 : h' 1 2 = h 1 2) (h2 : h' 167 6 = h 167 6) (h3 : h' 2 = h 2) (h4 : h' 172 = h 172) : TaR h' := by
  unfold TaR; rw [h1, h2, h3, h4]; exact a
theorem FaR_fr {h h' : Hp} (a : FaR h) (h1 : h' 1 0 = h 1 0) (h2 : h' 1 1 = h 1 1) (h3 : h' 167 14 = h 167 14) (h4 : h' 167 15 = h 167 15) : FaR h' := by
  unfold FaR; rw [h1, h2, h3, h4]; exact a
theorem LR_fr {t t' : Hp} {o : Nat} {b : Int} (a : LR t o b) (l5 : t o 5 ≤ 6) (l8 : t o 8 ≤ 40) (ho : ∀ x, o ≤ x → x ≤ o + 5 → t' x = t x) (h3 : t' 173 b = t 173 b) (h4 : ∀ j, 0 ≤ j → j < 6 → t' 174 (6 * b + j) = t 174 (6 * b + j)) (h5 : ∀ j, 0 ≤ j → j < 30 → t' 175 (30 * b + j) = t 175 (30 * b + j)) (h6 : ∀ j, 0 ≤ j → j < 160 → t' 176 (160 * b + j) = t 176 (160 * b + j)) : LR t' o b := by
  obtain ⟨n6, n0, n1, n2, n3, n4, n5, nT, nA⟩ := a
  have z0 := h4 0 (by omega) (by omega)
  rw [Int.add_zero] at z0
  unfold LR
  rw [ho o (by omega) (by omega), ho (o + 1) (by omega) (by omega), ho (o + 2) (by omega) (by omega), ho (o + 3) (by omega) (by omega), ho (o + 4) (by omega) (by omega), ho (o + 5) (by omega) (by omega), h3, z0, h4 1 (by omega) (by omega), h4 2 (by omega) (by omega), h4 3 (by omega) (by omega), h4 4 (by omega) (by omega), h4 5 (by omega) (by omega)]
  refine ⟨n6, n0, n1, n2, n3, n4, n5, ?_, ?_⟩
  · intro i x y
    rw [h5 i x (by omega)]; exact nT i x y
  · intro i x y
    have z1 := h6 (4 * i) (by omega) (by omega)
    have z2 := h6 (4 * i + 1) (by omega) (by omega)
    have z3 := h6 (4 * i + 2) (by omega) (by omega)
    have z4 := h6 (4 * i + 3) (by omega) (by omega)
    rw [← Int.add_assoc] at z2 z3 z4
    rw [z1, z2, z3, z4]
    exact nA i x y
theorem ImR_fr {h h' : Hp} {k : Nat} (a : ImR h k) (ho : ∀ x, 37 + 6 * k ≤ x → x ≤ 37 + 6 * k + 5 → h' x = h x) (h3 : h' 173 (1 + (k : Int)) = h 173 (1 + (k : Int))) (h4 : ∀ j, 0 ≤ j → j < 6 → h' 174 (6 * (1 + (k : Int)) + j) = h 174 (6 * (1 + (k : Int)) + j)) (h5 : ∀ j, 0 ≤ j → j < 30 → h' 175 (30 * (1 + (k : Int)) + j) = h 175 (30 * (1 + (k : Int)) + j)) (h6 : ∀ j, 0 ≤ j → j < 160 → h' 176 (160 * (1 + (k : Int)) + j) = h 176 (160 * (1 + (k : Int)) + j)) (h7 : h' 16 k = h 16 k) (h8 : h' 177 k = h 177 k) : ImR h' k := by
  obtain ⟨a1, a2, a3, a4⟩ := a
  obtain ⟨l0, l1, l2, l3, l4, l5, l6, l8, lx⟩ := a2
  refine ⟨LR_fr a1 l5.2 l8.2 ho h3 h4 h5 h6, ?_, ?_, ?_⟩
  · unfold LOkO
    rw [ho (37 + 6 * k) (by omega) (by omega), ho (37 + 6 * k + 1) (by omega) (by omega), ho (37 + 6 * k + 2) (by omega) (by omega), ho (37 + 6 * k + 3) (by omega) (by omega), ho (37 + 6 * k + 4) (by omega) (by omega), ho (37 + 6 * k + 5) (by omega) (by omega)]
    exact ⟨l0, l1, l2, l3, l4, l5, l6, l8, lx⟩
  · rw [h7, h8]; exact a3
  · rw [h7]; exact a4
theorem SlR_fr {h h' : Hp} {i : Nat} (a : SlR h i) (h1 : h' (55 + 2 * i) = h (55 + 2 * i)) (h2 : h' (55 + 2 * i + 1) = h (55 + 2 * i + 1)) (h3 : h' 168 i = h 168 i) (h4 : h' 169 i = h 169 i) (h5 : ∀ j, 0 ≤ j → j < 60 → h' 170 (60 * (i : Int) + j) = h 170 (60 * (i : Int) + j)) : SlR h' i := by
  unfold SlR at a ⊢
  rw [h1, h2, h3, h4]
  rcases a with a | ⟨a1, a2, a3, a4, a5, a6⟩
  · exact Or.inl a
  · refine Or.inr ⟨a1, a2, a3, a4, a5, ?_⟩
    intro j x y
    rw [h5 j x (by omega)]; exact a6 j x y
theorem Bas_T {h h' : Hp} (hB : Bas h) (t : TaR h') (f : FaR h') (hf : ∀ a, ((9 ≤ a ∧ a ≤ 14) ∨ a = 16 ∨ (37 ≤ a ∧ a ≤ 62) ∨ (168 ≤ a ∧ a ≤ 170) ∨ (173 ≤ a ∧ a ≤ 177)) → h' a = h a) : Bas h' := by
  obtain ⟨b1, b2, b3, b4, b5, b6⟩ := hB
  refine ⟨t, f, L0_fr b3 (fun a ha => hf a (by omega)), L9_fr b4 (fun a ha => hf a (by omega)), ?_, ?_⟩
  · intro k hk
    exact ImR_fr (b5 k hk) (fun x p q => hf x (by omega)) (by rw [hf 173 (by omega)]) (fun j _ _ => by rw [hf 174 (by omega)]) (fun j _ _ => by rw [hf 175 (by omega)]) (fun j _ _ => by rw [hf 176 (by omega)]) (by rw [hf 16 (by omega)]) (by rw [hf 177 (by omega)])
  · intro i hi
    exact SlR_fr (b6 i hi) (hf _ (by omega)) (hf _ (by omega)) (by rw [hf 168 (by omega)]) (by rw [hf 169 (by omega)]) (fun j _ _ => by rw [hf 170 (by omega)])
theorem INV_stale {h : Hp} (hB : Bas h) (h1 : h 0 11 = 1) (h2 : h 0 12 = 1) : INV h := ⟨hB, Or.inr h1, Or.inr h2, fun q => by rw [h1] at q; exact absurd q (by decide), fun q => by rw [h2] at q; exact absurd q (by decide)⟩
theorem INV_keep {h h' : Hp} (hI : INV h) (hB : Bas h') (h1 : h' 0 11 = h 0 11) (h2 : h' 0 12 = h 0 12) (hf : ∀ a, ((9 ≤ a ∧ a ≤ 14) ∨ (27 ≤ a ∧ a ≤ 31) ∨ (63 ≤ a ∧ a ≤ 166)) → h' a = h a) : INV h' := by
  obtain ⟨i1, i2, i3, i4, i5⟩ := hI
  have eS : ∀ s, Sea h' s = Sea h s := Sea_fr (fun a ha => hf a (by omega))
  refine ⟨hB, by rw [h1]; exact i2, by rw [h2]; exact i3, ?_, ?_⟩
  · intro z s hs
    rw [eS]
    exact CA_fr (i4 (by rw [← h1]; exact z) s hs) (fun a _ _ => hf a (by omega))
  · intro z
    rw [eS]
    exact OA_fr (fun a _ _ => hf a (by omega)) (i5 (by rw [← h2]; exact z))
theorem INV_T {h h' : Hp} (hI : INV h) (t : TaR h') (f : FaR h') (h1 : h' 0 11 = h 0 11) (h2 : h' 0 12 = h 0 12) (hf : ∀ a, ((9 ≤ a ∧ a ≤ 14) ∨ a = 16 ∨ (27 ≤ a ∧ a ≤ 31) ∨ (37 ≤ a ∧ a ≤ 166) ∨ (168 ≤ a ∧ a ≤ 170) ∨ (173 ≤ a ∧ a ≤ 177)) → h' a = h a) : INV h' :=
  INV_keep hI (Bas_T hI.1 t f (fun a ha => hf a (by omega))) h1 h2 (fun a ha => hf a (by omega))
theorem st_fault : St_fault INV := by
  intro h hI a1 w1
  obtain ⟨f1, f2⟩ := hI.1.2.1
  have e1 : up h 167 0 0 167 14 = h 1 0 := by rw [up_ni (by omega)]; exact f1.symm
  have e2 : up h 167 0 0 167 15 = h 1 1 := by rw [up_ni (by omega)]; exact f2.symm
  refine ⟨if a1 = 0 then h 1 0 else if a1 = 1 then h 1 1 else -1, if a1 = 0 then h 1 0 else if a1 = 1 then h 1 1 else -1, up h 167 0 0, ?_, ?_, rfl, (Mf_self hI).1⟩
  · unfold sf_fault
    rw [w1, show wr 1 = 1 from rfl]
    split <;> rfl
  · unfold md_fault
    rw [w1, show wr 1 = 1 from rfl, lt_eq, e1, e2]
theorem st_end : St_end INV := by
  intro h hI a1 w1
  have b1 := in32 w1
  have hT := hI.1.1
  obtain ⟨t1, t2, t3⟩ := hT
  by_cases g : 0 ≤ a1 ∧ a1 ≤ h 1 2
  · have e6 : up (up h 1 2 a1) 167 0 0 167 6 = h 1 2 := by rw [up_ni (by omega), up_nk (by omega)]; exact t1.symm
    have q := m_in (t := up (up h 1 2 a1) 167 0 0) (a := a1) (x := 0) (y := h 1 2) (by omega) (by omega) (by omega)
    refine ⟨a1, up h 1 2 a1, a1, up (up (up h 1 2 a1) 167 0 0) 167 6 a1, ?_, ?_, rfl, ?_⟩
    · simp (disch := omega) only [sf_end, bd_some, lt_eq, bI_wr, bI_t, bI_f, if_neg, if_pos, if_true, if_false, wr_id, chk_t]
    · simp (disch := omega) only [md_end, e6, w1, q, bd_some, lt_eq, bI_wr, bI_t, bI_f, if_neg, if_pos, if_true, if_false, wr_id, chk_t]
    · refine INV_T hI ⟨?_, ?_, ?_⟩ (FaR_fr hI.1.2.1 ?_ ?_ ?_ ?_) ?_ ?_ (fun a ha => ?_)
      · rw [up_nk (by omega), up_nk (by omega), up_eq, up_eq]
      · rw [up_nk (by omega), up_nk (by omega), up_eq]; omega
      · intro j x y
        rw [up_nk (by omega), up_nk (by omega), up_eq] at y
        simp (disch := omega) only [up_nk]
        exact t3 j x (by omega)
      · simp (disch := omega) only [up_nk, up_ni]
      · simp (disch := omega) only [up_nk, up_ni]
      · simp (disch := omega) only [up_nk, up_ni]
      · simp (disch := omega) only [up_nk, up_ni]
      · simp (disch := omega) only [up_nk, up_ni]
      · simp (disch := omega) only [up_nk, up_ni]
      · simp (disch := omega) only [up_nk]
  · have e6 : up h 167 0 0 167 6 = h 1 2 := by rw [up_ni (by omega)]; exact t1.symm
    have q := m_in (t := up h 167 0 0) (a := a1) (x := 0) (y := h 1 2) (by omega) (by omega) (by omega)
    refine ⟨-1, h, -1, up h 167 0 0, ?_, ?_, rfl, (Mf_self hI).1⟩
    · by_cases g2 : 0 ≤ a1
      · simp (disch := omega) only [sf_end, bd_some, lt_eq, bI_wr, bI_t, bI_f, if_neg, if_pos, if_true, if_false, wr_id, chk_t]
      · simp (disch := omega) only [sf_end, bd_some, lt_eq, bI_wr, bI_t, bI_f, if_neg, if_pos, if_true, if_false, wr_id, chk_t]
    · simp (disch := omega) only [md_end, e6, w1, q, bd_some, lt_eq, bI_wr, bI_t, bI_f, if_neg, if_pos, if_true, if_false, wr_id, chk_t]
/-! feed -/
theorem w8_in (a : Int) : -128 ≤ w8 a ∧ w8 a ≤ 127 := by
  unfold w8
  rw [Int8.toInt_toInt32, Int32.toInt_toInt8]
  have h1 := Int.le_bmod (x := (Int32.ofInt a).toInt) (m := 2 ^ 8) (by omega)
  have h2 := Int.bmod_lt (x := (Int32.ofInt a).toInt) (m := 2 ^ 8) (by omega)
  omega
def exT (f : Int → Int) (L x : Int) : Int → Int := fun j => if L ≤ j ∧ j < L + 4 then w8 (w8 (ishr x (24 - 8 * (j - L)))) else f j
theorem exT_in {f : Int → Int} {L x : Int} (hf : ∀ j, 0 ≤ j → j < L → -128 ≤ f j ∧ f j ≤ 127) : ∀ j, 0 ≤ j → j < L + 4 → -128 ≤ exT f L x j ∧ exT f L x j ≤ 127 := by
  intro j a b
  unfold exT
  split
  · exact w8_in _
  · exact hf j a (by omega)
theorem c_put {m : Hp} {L : Int} (hL : 0 ≤ L ∧ L ≤ 796) (e : m 1 2 = L) {f : Int → Int} (hf : ∀ j, 0 ≤ j → j < L → m 2 j = f j) (x : Int) : ∃ m', rd_putBytes m x = some m' ∧ m' 1 2 = L + 4 ∧ (∀ j, 0 ≤ j → j < L + 4 → m' 2 j = exT f L x j) ∧ (∀ a, a ≠ 1 → a ≠ 2 → m' a = m a) ∧ ∀ j, j ≠ 2 → m' 1 j = m 1 j := by
  obtain ⟨g, e1, r⟩ := lp (body := rd_putBytes_b1 x) (s0 := (24, m)) (Q := fun g => g 1 2 = L + 4 ∧ (∀ j, 0 ≤ j → j < L + 4 → g 2 j = exT f L x j) ∧ (∀ a, a ≠ 1 → a ≠ 2 → g a = m a) ∧ ∀ j, j ≠ 2 → g 1 j = m 1 j) (fun i s => s.1 = 24 - 8 * i ∧ s.2 1 2 = L + i ∧ (∀ j, 0 ≤ j → j < L + i → s.2 2 j = exT f L x j) ∧ (∀ a, a ≠ 1 → a ≠ 2 → s.2 a = m a) ∧ ∀ j, j ≠ 2 → s.2 1 j = m 1 j) 4 (by omega) (by omega) ⟨rfl, by dsimp only; omega, fun j a b => by
      unfold exT; rw [if_neg (by omega)]; exact hf j a (by omega), fun _ _ _ => rfl, fun _ _ => rfl⟩ (fun i s a b hi => by
    obtain ⟨c, g⟩ := s
    obtain ⟨q1, q2, q3, q4, q5⟩ := hi
    dsimp only at q1 q2 q3 q4 q5
    refine ⟨(c + (-8), up (up g 2 (L + i) (w8 (w8 (ishr x c)))) 1 2 (L + i + 1)), ?_, by dsimp only; omega, ?_, ?_, ?_, ?_⟩
    · have y : up g 2 (L + i) (w8 (w8 (ishr x c))) 1 2 = L + i := by rw [up_nk (by omega)]; exact q2
      simp (disch := omega) only [rd_putBytes_b1, q2, y, bd_some, lt_eq, bI_wr, bI_t, bI_f, if_neg, if_pos, if_true, if_false, wr_id, chk_t]
    · dsimp only; rw [up_eq]; omega
    · intro j h1 h2
      try dsimp only
      rw [up_nk (by omega)]
      by_cases ej : j = L + i
      · rw [ej, up_eq]; unfold exT; rw [if_pos (by omega)]
        have : (24 : Int) - 8 * (L + i - L) = c := by omega
        rw [this]
      · rw [up_ni ej]; exact q3 j h1 (by omega)
    · intro a' h1 h2
      try dsimp only
      rw [up_nk h1, up_nk h2]; exact q4 a' h1 h2
    · intro j h1
      try dsimp only
      rw [up_ni h1, up_nk (by omega)]; exact q5 j h1) (fun s hi => by
    obtain ⟨c, g⟩ := s
    obtain ⟨q1, q2, q3, q4, q5⟩ := hi
    dsimp only at q1 q2 q3 q4 q5
    exact ⟨g, by simp (disch := omega) only [rd_putBytes_b1, bd_some, lt_eq, bI_wr, bI_t, bI_f, if_neg, if_pos, if_true, if_false, wr_id, chk_t], q2, q3, q4, q5⟩)
  exact ⟨g, by unfold rd_putBytes; rw [e1]; rfl, r⟩
theorem m_put {m : Hp} {L : Int} (hL : 0 ≤ L ∧ L ≤ 796) (e : m 167 6 = L) {f : Int → Int} (hf : ∀ j, 0 ≤ j → j < L → m 172 j = f j) (x : Int) : ∃ m', md_four m x = some m' ∧ m' 167 6 = L + 4 ∧ (∀ j, 0 ≤ j → j < L + 4 → m' 172 j = exT f L x j) ∧ (∀ a, a ≠ 167 → a ≠ 172 → m' a = m a) ∧ ∀ j, j ≠ 6 → m' 167 j = m 167 j := by
  obtain ⟨g, e1, r⟩ := lp (body := md_four_b1 x) (s0 := (24, m)) (Q := fun g => g 167 6 = L + 4 ∧ (∀ j, 0 ≤ j → j < L + 4 → g 172 j = exT f L x j) ∧ (∀ a, a ≠ 167 → a ≠ 172 → g a = m a) ∧ ∀ j, j ≠ 6 → g 167 j = m 167 j) (fun i s => s.1 = 24 - 8 * i ∧ s.2 167 6 = L + i ∧ (∀ j, 0 ≤ j → j < L + i → s.2 172 j = exT f L x j) ∧ (∀ a, a ≠ 167 → a ≠ 172 → s.2 a = m a) ∧ ∀ j, j ≠ 6 → s.2 167 j = m 167 j) 4 (by omega) (by omega) ⟨rfl, by dsimp only; omega, fun j a b => by
      unfold exT; rw [if_neg (by omega)]; exact hf j a (by omega), fun _ _ _ => rfl, fun _ _ => rfl⟩ (fun i s a b hi => by
    obtain ⟨c, g⟩ := s
    obtain ⟨q1, q2, q3, q4, q5⟩ := hi
    dsimp only at q1 q2 q3 q4 q5
    refine ⟨(c + (-8), up (up g 172 (L + i) (w8 (w8 (ishr x c)))) 167 6 (L + i + 1)), ?_, by dsimp only; omega, ?_, ?_, ?_, ?_⟩
    · have y : up g 172 (L + i) (w8 (w8 (ishr x c))) 167 6 = L + i := by rw [up_nk (by omega)]; exact q2
      simp (disch := omega) only [md_four_b1, q2, y, bd_some, lt_eq, bI_wr, bI_t, bI_f, if_neg, if_pos, if_true, if_false, wr_id, chk_t]
    · dsimp only; rw [up_eq]; omega
    · intro j h1 h2
      try dsimp only
      rw [up_nk (by omega)]
      by_cases ej : j = L + i
      · rw [ej, up_eq]; unfold exT; rw [if_pos (by omega)]
        have : (24 : Int) - 8 * (L + i - L) = c := by omega
        rw [this]
      · rw [up_ni ej]; exact q3 j h1 (by omega)
    · intro a' h1 h2
      try dsimp only
      rw [up_nk h1, up_nk h2]; exact q4 a' h1 h2
    · intro j h1
      try dsimp only
      rw [up_ni h1, up_nk (by omega)]; exact q5 j h1) (fun s hi => by
    obtain ⟨c, g⟩ := s
    obtain ⟨q1, q2, q3, q4, q5⟩ := hi
    dsimp only at q1 q2 q3 q4 q5
    exact ⟨g, by simp (disch := omega) only [md_four_b1, bd_some, lt_eq, bI_wr, bI_t, bI_f, if_neg, if_pos, if_true, if_false, wr_id, chk_t], q2, q3, q4, q5⟩)
  exact ⟨g, by unfold md_four; rw [e1]; rfl, r⟩
theorem st_feed : St_feed INV := by
  intro h hI a1 a2 a3 a4 a5 w1 w2 w3 w4 w5
  obtain ⟨t1, t2, t3⟩ := hI.1.1
  by_cases g : 780 < h 1 2
  · refine ⟨-1, h, -1, up h 167 0 0, ?_, ?_, rfl, (Mf_self hI).1⟩
    · simp (disch := omega) only [sf_feed, bd_some, lt_eq, bI_wr, bI_t, bI_f, if_neg, if_pos, if_true, if_false, wr_id, chk_t]
    · have e6 : up h 167 0 0 167 6 = h 1 2 := by rw [up_ni (by omega)]; exact t1.symm
      simp (disch := omega) only [md_feed, e6, bd_some, lt_eq, bI_wr, bI_t, bI_f, if_neg, if_pos, if_true, if_false, wr_id, chk_t]
  · obtain ⟨m1, c1, l1, f1, k1, z1⟩ := c_put (m := h) (L := h 1 2) (by omega) rfl (f := h 2) (fun _ _ _ => rfl) a1
    obtain ⟨m2, c2, l2, f2, k2, z2⟩ := c_put (by omega) l1 f1 a2
    obtain ⟨m3, c3, l3, f3, k3, z3⟩ := c_put (by omega) l2 f2 a3
    obtain ⟨m4, c4, l4, f4, k4, z4⟩ := c_put (by omega) l3 f3 a4
    obtain ⟨m5, c5, l5, f5, k5, z5⟩ := c_put (by omega) l4 f4 a5
    have K : ∀ a, a ≠ 1 → a ≠ 2 → m5 a = h a := fun a p q => by rw [k5 a p q, k4 a p q, k3 a p q, k2 a p q, k1 a p q]
    have Z : ∀ j, j ≠ 2 → m5 1 j = h 1 j := fun j p => by rw [z5 j p, z4 j p, z3 j p, z2 j p, z1 j p]
    have d0 : up m5 167 0 0 167 6 = h 1 2 := by rw [up_ni (by omega), K 167 (by omega) (by omega)]; exact t1.symm
    have df : ∀ j, 0 ≤ j → j < h 1 2 → up m5 167 0 0 172 j = h 2 j := fun j x y => by
      rw [up_nk (by omega), K 172 (by omega) (by omega)]; exact (t3 j x y).1.symm
    obtain ⟨n1, d1, o1, p1, q1, y1⟩ := m_put (m := up m5 167 0 0) (by omega) d0 df a1
    obtain ⟨n2, d2, o2, p2, q2, y2⟩ := m_put (by omega) o1 p1 a2
    obtain ⟨n3, d3, o3, p3, q3, y3⟩ := m_put (by omega) o2 p2 a3
    obtain ⟨n4, d4, o4, p4, q4, y4⟩ := m_put (by omega) o3 p3 a4
    obtain ⟨n5, d5, o5, p5, q5, y5⟩ := m_put (by omega) o4 p4 a5
    have K' : ∀ a, a ≠ 167 → a ≠ 172 → n5 a = m5 a := fun a p q => by rw [q5 a p q, q4 a p q, q3 a p q, q2 a p q, q1 a p q, up_nk p]
    have Z' : ∀ j, j ≠ 6 → j ≠ 0 → n5 167 j = h 167 j := fun j p q => by rw [y5 j p, y4 j p, y3 j p, y2 j p, y1 j p, up_ni q, K 167 (by omega) (by omega)]
    have R := exT_in (x := a5) (exT_in (x := a4) (exT_in (x := a3) (exT_in (x := a2) (exT_in (x := a1) (fun j x y => (t3 j x y).2)))))
    refine ⟨m5 1 2, m5, n5 167 6, n5, ?_, ?_, by rw [l5, o5], ?_⟩
    · simp (disch := omega) only [sf_feed, c1, c2, c3, c4, c5, bd_some, lt_eq, bI_wr, bI_t, bI_f, if_neg, if_pos, if_true, if_false, wr_id, chk_t]
    · simp (disch := omega) only [md_feed, d0, d1, d2, d3, d4, d5, bd_some, lt_eq, bI_wr, bI_t, bI_f, if_neg, if_pos, if_true, if_false, wr_id, chk_t]
    · refine INV_T hI ⟨?_, ?_, ?_⟩ (FaR_fr hI.1.2.1 ?_ ?_ ?_ ?_) ?_ ?_ (fun a ha => ?_)
      · rw [K' 1 (by omega) (by omega), l5, o5]
      · rw [K' 1 (by omega) (by omega), l5]; omega
      · intro j x y
        rw [K' 1 (by omega) (by omega), l5] at y
        rw [K' 2 (by omega) (by omega), f5 j x y, p5 j x y]
        exact ⟨rfl, R j x y⟩
      · rw [K' 1 (by omega) (by omega)]; exact Z 0 (by omega)
      · rw [K' 1 (by omega) (by omega)]; exact Z 1 (by omega)
      · exact Z' 14 (by omega) (by omega)
      · exact Z' 15 (by omega) (by omega)
      · rw [K' 0 (by omega) (by omega), K 0 (by omega) (by omega)]
      · rw [K' 0 (by omega) (by omega), K 0 (by omega) (by omega)]
      · rw [K' a (by omega) (by omega), K a (by omega) (by omega)]
/-! count -/
theorem st_count : St_count INV := by
  intro h hI a1 w1
  have b1 := in32 w1
  obtain ⟨t1, t2, t3⟩ := hI.1.1
  obtain ⟨n6, n0, n1, n2, n3, n4, n5, _⟩ := hI.1.2.2.1
  have bS := hI.1.2.2.2.2.2
  have m0 : Mf h (up h 167 0 0) := Mf_self hI
  have q := m_in (t := up h 167 0 0) (a := a1) (x := 0) (y := 5) (by omega) (by omega) (by omega)
  have e174 : up h 167 0 0 174 = h 174 := up_nk (by omega)
  have e173 : up h 167 0 0 173 = h 173 := up_nk (by omega)
  have e168 : up h 167 0 0 168 = h 168 := up_nk (by omega)
  have e6 : up h 167 0 0 167 6 = h 1 2 := by rw [up_ni (by omega)]; exact t1.symm
  have sl : ∀ i, 0 ≤ i → i < 4 → (h (55 + 2 * i.toNat) 0 = 0 ∧ h 168 i = -1) ∨ (h (55 + 2 * i.toNat) 0 = 1 ∧ 0 ≤ h 168 i ∧ h 168 i ≤ 3) := by
    intro i a b
    have e : ((i.toNat : Nat) : Int) = i := by omega
    have := bS i.toNat (by omega)
    unfold SlR at this
    rw [e] at this
    rcases this with z | ⟨z1, z2, z3, _⟩
    · exact Or.inl z
    · exact Or.inr ⟨z1, by omega, by omega⟩
  have hc : sf_slotsThere h = some (sm 4 (fun i => if h 168 i = -1 then 0 else 1)) := by
    unfold sf_slotsThere
    have hit := lp_fn (body := sf_slotsThere_b1 h) (s0 := (0, 0)) (fun i => (sm i (fun i => if h 168 i = -1 then 0 else 1), i)) 4 (sm 4 (fun i => if h 168 i = -1 then 0 else 1)) (by omega) (by omega) rfl (fun i a b => by
      rw [sm_succ a]
      rcases sl i a b with ⟨z1, z2⟩ | ⟨z1, z2⟩
      · simp (disch := omega) only [sf_slotsThere_b1, z1, z2, Int.add_zero, bd_some, lt_eq, bI_wr, bI_t, bI_f, if_neg, if_pos, if_true, if_false, wr_id, chk_t]
      · simp (disch := omega) only [sf_slotsThere_b1, z1, bd_some, lt_eq, bI_wr, bI_t, bI_f, if_neg, if_pos, if_true, if_false, wr_id, chk_t]) (by
      simp (disch := omega) only [sf_slotsThere_b1, bd_some, lt_eq, bI_wr, bI_t, bI_f, if_neg, if_pos, if_true, if_false, wr_id, chk_t])
    rw [hit]; rfl
  have hm : iter FU (md_count_b1 (up h 167 0 0)) (0, 0) = some (sm 4 (fun i => if h 168 i = -1 then 0 else 1)) :=
    lp_fn (body := md_count_b1 (up h 167 0 0)) (s0 := (0, 0)) (fun i => (sm i (fun i => if h 168 i = -1 then 0 else 1), i)) 4 (sm 4 (fun i => if h 168 i = -1 then 0 else 1)) (by omega) (by omega) rfl (fun i a b => by
      rw [sm_succ a]
      have := sl i a b
      simp (disch := omega) only [md_count_b1, e168, bd_some, wr_id, if_pos, chk_t]) (by
      simp (disch := omega) only [md_count_b1, bd_some, lt_eq, bI_wr, bI_t, bI_f, if_neg, if_pos, if_true, if_false, wr_id, chk_t])
  by_cases g : 0 ≤ a1 ∧ a1 ≤ 5
  · have hg : a1 = 0 ∨ a1 = 1 ∨ a1 = 2 ∨ a1 = 3 ∨ a1 = 4 ∨ a1 = 5 := by omega
    refine ⟨h 174 a1, h 174 a1, up h 167 0 0, ?_, ?_, rfl, m0.1⟩
    · rcases hg with z | z | z | z | z | z <;> (subst z; simp (disch := omega) only [sf_count, n0, n1, n2, n3, n4, n5, bd_some, lt_eq, bI_wr, bI_t, bI_f, if_neg, if_pos, if_true, if_false, wr_id, chk_t])
    · simp (disch := omega) only [md_count, w1, q, e174, bd_some, lt_eq, bI_wr, bI_t, bI_f, if_neg, if_pos, if_true, if_false, wr_id, chk_t]
  · by_cases g6 : a1 = 6
    · subst g6
      refine ⟨h 9 6, h 9 6, up h 167 0 0, ?_, ?_, rfl, m0.1⟩
      · simp (disch := omega) only [sf_count, bd_some, lt_eq, bI_wr, bI_t, bI_f, if_neg, if_pos, if_true, if_false, wr_id, chk_t]
      · simp (disch := omega) only [md_count, q, e173, n6, bd_some, lt_eq, bI_wr, bI_t, bI_f, if_neg, if_pos, if_true, if_false, wr_id, chk_t]
    · by_cases g7 : a1 = 7
      · subst g7
        refine ⟨h 1 2, h 1 2, up h 167 0 0, ?_, ?_, rfl, m0.1⟩
        · simp (disch := omega) only [sf_count, bd_some, lt_eq, bI_wr, bI_t, bI_f, if_neg, if_pos, if_true, if_false, wr_id, chk_t]
        · simp (disch := omega) only [md_count, q, e6, bd_some, lt_eq, bI_wr, bI_t, bI_f, if_neg, if_pos, if_true, if_false, wr_id, chk_t]
      · by_cases g8 : a1 = 8
        · subst g8
          refine ⟨sm 4 (fun i => if h 168 i = -1 then 0 else 1), sm 4 (fun i => if h 168 i = -1 then 0 else 1), up h 167 0 0, ?_, ?_, rfl, m0.1⟩
          · simp (disch := omega) only [sf_count, hc, bd_some, lt_eq, bI_wr, bI_t, bI_f, if_neg, if_pos, if_true, if_false, wr_id, chk_t]
          · simp (disch := omega) only [md_count, q, hm, bd_some, lt_eq, bI_wr, bI_t, bI_f, if_neg, if_pos, if_true, if_false, wr_id, chk_t]
        · refine ⟨-1, -1, up h 167 0 0, ?_, ?_, rfl, m0.1⟩
          · simp (disch := omega) only [sf_count, bd_some, lt_eq, bI_wr, bI_t, bI_f, if_neg, if_pos, if_true, if_false, wr_id, chk_t]
          · simp (disch := omega) only [md_count, w1, q, bd_some, lt_eq, bI_wr, bI_t, bI_f, if_neg, if_pos, if_true, if_false, wr_id, chk_t]
