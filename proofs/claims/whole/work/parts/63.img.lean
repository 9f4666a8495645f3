/-! Layer 2: images, rows of numbers -/
/-- the class takes a land over -/
theorem c_land {h : Hp} {o o0 : Nat} (hL : LOkO h o0) (hne : o0 + 5 < o ∨ o + 5 < o0) : ∃ h', ld_takeFrom h o o0 = some h' ∧ (∀ j, (0 ≤ j ∧ j ≤ 6) ∨ j = 8 → h' o j = h o0 j) ∧ (∀ j, 0 ≤ j → j < 30 → h' (o + 1) j = h (o0 + 1) j) ∧ (∀ j, 0 ≤ j → j < h o0 8 → h' (o + 2) j = h (o0 + 2) j ∧ h' (o + 3) j = h (o0 + 3) j ∧ h' (o + 4) j = h (o0 + 4) j ∧ h' (o + 5) j = h (o0 + 5) j) ∧ ∀ a, (a < o ∨ o + 5 < a) → h' a = h a := by
  obtain ⟨l0, l1, l2, l3, l4, l5, l6, l8, lx⟩ := hL
  obtain ⟨g1, e1⟩ : ∃ g1, g1 = up (up (up (up (up (up (up h o 0 (h o0 0)) o 1 (h o0 1)) o 2 (h o0 2)) o 3 (h o0 3)) o 4 (h o0 4)) o 5 (h o0 5)) o 6 (h o0 6) := ⟨_, rfl⟩
  obtain ⟨g2, e2⟩ : ∃ g2, g2 = up (cpy g1 (o0 + 1) (o + 1) 0 0 30) o 8 (h o0 8) := ⟨_, rfl⟩
  obtain ⟨g3, e3⟩ : ∃ g3, g3 = cpy (cpy (cpy (cpy g2 (o0 + 2) (o + 2) 0 0 (h o0 8)) (o0 + 3) (o + 3) 0 0 (h o0 8)) (o0 + 4) (o + 4) 0 0 (h o0 8)) (o0 + 5) (o + 5) 0 0 (h o0 8) := ⟨_, rfl⟩
  have k1 : ∀ a, a ≠ o → g1 a = h a := by
    intro a ha
    rw [e1]
    simp (disch := omega) only [up_nk]
  have j1 : ∀ j, 0 ≤ j → j ≤ 6 → g1 o j = h o0 j := by
    intro j a b
    rw [e1]
    have : j = 0 ∨ j = 1 ∨ j = 2 ∨ j = 3 ∨ j = 4 ∨ j = 5 ∨ j = 6 := by omega
    rcases this with z | z | z | z | z | z | z <;> (subst z; simp (disch := omega) only [up_ni, up_eq])
  have k2 : ∀ a, a ≠ o → a ≠ o + 1 → g2 a = h a := by
    intro a p q
    rw [e2, up_nk p, cpy_nk q, k1 a p]
  have j2 : ∀ j, (0 ≤ j ∧ j ≤ 6) ∨ j = 8 → g2 o j = h o0 j := by
    intro j a
    rw [e2]
    by_cases z : j = 8
    · rw [z, up_eq]
    · rw [up_ni z, cpy_nk (by omega)]; exact j1 j (by omega) (by omega)
  have t2 : ∀ j, 0 ≤ j → j < 30 → g2 (o + 1) j = h (o0 + 1) j := by
    intro j a b
    rw [e2, up_nk (by omega), cpy_in (by omega), k1 _ (by omega)]
    congr 1; omega
  have e38 : ∀ G : Hp, G o = g2 o → G o 8 = h o0 8 := by
    intro G q
    rw [q]; exact j2 8 (Or.inr rfl)
  refine ⟨g3, ?_, ?_, ?_, ?_, ?_⟩
  · have r8 : cpy g1 (o0 + 1) (o + 1) 0 0 30 o0 8 = h o0 8 := by rw [cpy_nk (by omega), k1 _ (by omega)]
    have s1 : g2 o 8 = h o0 8 := j2 8 (Or.inr rfl)
    have s2 : cpy g2 (o0 + 2) (o + 2) 0 0 (h o0 8) o 8 = h o0 8 := e38 _ (cpy_nk (by omega))
    have s3 : cpy (cpy g2 (o0 + 2) (o + 2) 0 0 (h o0 8)) (o0 + 3) (o + 3) 0 0 (h o0 8) o 8 = h o0 8 := e38 _ (by rw [cpy_nk (by omega), cpy_nk (by omega)])
    have s4 : cpy (cpy (cpy g2 (o0 + 2) (o + 2) 0 0 (h o0 8)) (o0 + 3) (o + 3) 0 0 (h o0 8)) (o0 + 4) (o + 4) 0 0 (h o0 8) o 8 = h o0 8 := e38 _ (by rw [cpy_nk (by omega), cpy_nk (by omega), cpy_nk (by omega)])
    have w8' : wr (h o0 8) = h o0 8 := wr_id (by omega)
    unfold ld_takeFrom
    have q : ∀ j v, up h o j v o0 = h o0 := fun j v => up_nk (by omega)
    simp (disch := omega) only [lt_eq, chk_t, up_nk, show wr 0 = 0 from rfl, show wr 30 = 30 from rfl, ← e1, r8, ← e2, s1, w8', s2, s3, s4, ← e3]
  · intro j a
    rw [e3]
    simp (disch := omega) only [cpy_nk]
    exact j2 j a
  · intro j a b
    rw [e3]
    simp (disch := omega) only [cpy_nk]
    exact t2 j a b
  · intro j a b
    rw [e3]
    refine ⟨?_, ?_, ?_, ?_⟩
    · rw [cpy_nk (by omega), cpy_nk (by omega), cpy_nk (by omega), cpy_in (by omega), k2 _ (by omega) (by omega)]
      congr 1; omega
    · rw [cpy_nk (by omega), cpy_nk (by omega), cpy_in (by omega), cpy_nk (by omega), k2 _ (by omega) (by omega)]
      congr 1; omega
    · rw [cpy_nk (by omega), cpy_in (by omega), cpy_nk (by omega), cpy_nk (by omega), k2 _ (by omega) (by omega)]
      congr 1; omega
    · rw [cpy_in (by omega), cpy_nk (by omega), cpy_nk (by omega), cpy_nk (by omega), k2 _ (by omega) (by omega)]
      congr 1; omega
  · intro a ha
    rw [e3]
    simp (disch := omega) only [cpy_nk]
    exact k2 a (by omega) (by omega)
theorem m_copyRow {t : Hp} {a0 n : Nat} {w x y : Int} (hw : 0 ≤ w ∧ w ≤ 160) (hx : 0 ≤ x ∧ x ≤ 4) (hy : 0 ≤ y ∧ y ≤ 4) (hn : w * x + w ≤ n ∧ w * y + w ≤ n) (hn8 : n ≤ 800) (hd : w * x + w ≤ w * y ∨ w * y + w ≤ w * x) : ∃ t', md_copyRow t a0 n w x y = some t' ∧ (∀ a, a ≠ a0 → t' a = t a) ∧ (∀ j, 0 ≤ j → j < w → t' a0 (w * y + j) = t a0 (w * x + j)) ∧ ∀ j, (j < w * y ∨ w * y + w ≤ j) → t' a0 j = t a0 j := by
  have p1 : 0 ≤ w * x := Int.mul_nonneg hw.1 hx.1
  have p2 : 0 ≤ w * y := Int.mul_nonneg hw.1 hy.1
  obtain ⟨X, eX⟩ : ∃ X, X = w * x := ⟨_, rfl⟩
  obtain ⟨Y, eY⟩ : ∃ Y, Y = w * y := ⟨_, rfl⟩
  rw [← eX] at p1 hn hd ⊢
  rw [← eY] at p2 hn hd ⊢
  obtain ⟨g, e, r⟩ := lp (body := md_copyRow_b1 a0 n w x y) (s0 := (0, t)) (Q := fun g => (∀ a, a ≠ a0 → g a = t a) ∧ (∀ j, 0 ≤ j → j < w → g a0 (Y + j) = t a0 (X + j)) ∧ ∀ j, (j < Y ∨ Y + w ≤ j) → g a0 j = t a0 j) (fun i s => s.1 = i ∧ (∀ a, a ≠ a0 → s.2 a = t a) ∧ (∀ j, 0 ≤ j → j < i → s.2 a0 (Y + j) = t a0 (X + j)) ∧ ∀ j, (j < Y ∨ Y + i ≤ j) → s.2 a0 j = t a0 j) w hw.1 (by omega) ⟨rfl, fun _ _ => rfl, fun j a b => by omega, fun _ _ => rfl⟩ (fun i s a b hi => by
    obtain ⟨c, g⟩ := s
    obtain ⟨q1, q2, q3, q4⟩ := hi
    dsimp only at q1 q2 q3 q4
    subst q1
    refine ⟨(c + 1, up g a0 (Y + c) (t a0 (X + c))), ?_, rfl, ?_, ?_, ?_⟩
    · have z := q4 (X + c) (by omega)
      simp (disch := omega) only [md_copyRow_b1, ← eX, ← eY, z, bd_some, lt_eq, bI_wr, bI_t, bI_f, if_neg, if_pos, if_true, if_false, wr_id, chk_t]
    · intro a' h1
      try dsimp only
      rw [up_nk h1]; exact q2 a' h1
    · intro j h1 h2
      try dsimp only
      by_cases ej : j = c
      · rw [ej, up_eq]
      · rw [up_ni (by omega)]; exact q3 j h1 (by omega)
    · intro j h1
      try dsimp only
      rw [up_ni (by omega)]; exact q4 j (by omega)) (fun s hi => by
    obtain ⟨c, g⟩ := s
    obtain ⟨q1, q2, q3, q4⟩ := hi
    dsimp only at q1 q2 q3 q4
    subst q1
    exact ⟨g, by simp (disch := omega) only [md_copyRow_b1, bd_some, lt_eq, bI_wr, bI_t, bI_f, if_neg, if_pos, if_true, if_false, wr_id, chk_t], q2, q3, q4⟩)
  exact ⟨g, by unfold md_copyRow; rw [e]; rfl, r⟩
theorem m_copyField {t : Hp} {x y : Int} (hx : 0 ≤ x ∧ x ≤ 4) (hy : 0 ≤ y ∧ y ≤ 4) (hd : x ≠ y) : ∃ t', md_copyField t x y = some t' ∧ (∀ a, (a < 173 ∨ 176 < a) → t' a = t a) ∧ (t' 173 y = t 173 x ∧ ∀ j, j ≠ y → t' 173 j = t 173 j) ∧ ((∀ j, 0 ≤ j → j < 6 → t' 174 (6 * y + j) = t 174 (6 * x + j)) ∧ ∀ j, (j < 6 * y ∨ 6 * y + 6 ≤ j) → t' 174 j = t 174 j) ∧ ((∀ j, 0 ≤ j → j < 30 → t' 175 (30 * y + j) = t 175 (30 * x + j)) ∧ ∀ j, (j < 30 * y ∨ 30 * y + 30 ≤ j) → t' 175 j = t 175 j) ∧ ((∀ j, 0 ≤ j → j < 160 → t' 176 (160 * y + j) = t 176 (160 * x + j)) ∧ ∀ j, (j < 160 * y ∨ 160 * y + 160 ≤ j) → t' 176 j = t 176 j) := by
  obtain ⟨g1, e1, a1, b1, c1⟩ := m_copyRow (t := t) (a0 := 173) (n := 5) (w := 1) (x := x) (y := y) (by omega) hx hy (by omega) (by omega) (by omega)
  obtain ⟨g2, e2, a2, b2, c2⟩ := m_copyRow (t := g1) (a0 := 174) (n := 30) (w := 6) (x := x) (y := y) (by omega) hx hy (by omega) (by omega) (by omega)
  obtain ⟨g3, e3, a3, b3, c3⟩ := m_copyRow (t := g2) (a0 := 175) (n := 150) (w := 30) (x := x) (y := y) (by omega) hx hy (by omega) (by omega) (by omega)
  obtain ⟨g4, e4, a4, b4, c4⟩ := m_copyRow (t := g3) (a0 := 176) (n := 800) (w := 160) (x := x) (y := y) (by omega) hx hy (by omega) (by omega) (by omega)
  refine ⟨g4, ?_, ?_, ⟨?_, ?_⟩, ⟨?_, ?_⟩, ⟨?_, ?_⟩, ⟨?_, ?_⟩⟩
  · unfold md_copyField
    rw [e1, bd_some, e2, bd_some, e3, bd_some, e4]; rfl
  · intro a ha
    rw [a4 a (by omega), a3 a (by omega), a2 a (by omega), a1 a (by omega)]
  · rw [a4 _ (by omega), a3 _ (by omega), a2 _ (by omega)]
    have := b1 0 (by omega) (by omega)
    rw [Int.one_mul, Int.one_mul, Int.add_zero, Int.add_zero] at this
    exact this
  · intro j hj
    rw [a4 _ (by omega), a3 _ (by omega), a2 _ (by omega)]
    exact c1 j (by omega)
  · intro j p q
    rw [a4 _ (by omega), a3 _ (by omega), b2 j p q, a1 _ (by omega)]
  · intro j p
    rw [a4 _ (by omega), a3 _ (by omega), c2 j p, a1 _ (by omega)]
  · intro j p q
    rw [a4 _ (by omega), b3 j p q, a2 _ (by omega), a1 _ (by omega)]
  · intro j p
    rw [a4 _ (by omega), c3 j p, a2 _ (by omega), a1 _ (by omega)]
  · intro j p q
    rw [b4 j p q, a3 _ (by omega), a2 _ (by omega), a1 _ (by omega)]
  · intro j p
    rw [c4 j p, a3 _ (by omega), a2 _ (by omega), a1 _ (by omega)]
theorem LOk_cp {t t' : Hp} {o o' : Nat} (hL : LOkO t o) (c1 : ∀ j, (0 ≤ j ∧ j ≤ 6) ∨ j = 8 → t' o' j = t o j) (c2 : ∀ j, 0 ≤ j → j < 30 → t' (o' + 1) j = t (o + 1) j) (c3 : ∀ j, 0 ≤ j → j < t o 8 → t' (o' + 2) j = t (o + 2) j ∧ t' (o' + 3) j = t (o + 3) j ∧ t' (o' + 4) j = t (o + 4) j ∧ t' (o' + 5) j = t (o + 5) j) : LOkO t' o' := by
  obtain ⟨l0, l1, l2, l3, l4, l5, l6, l8, lT, lZ, lA, lx, ly⟩ := hL
  unfold LOkO LOk
  rw [c1 0 (by omega), c1 1 (by omega), c1 2 (by omega), c1 3 (by omega), c1 4 (by omega), c1 5 (by omega), c1 6 (by omega), c1 8 (by omega)]
  refine ⟨l0, l1, l2, l3, l4, l5, l6, l8, ?_, ?_, ?_, lx, ly⟩
  · intro i a b
    rw [c2 i a b]; exact lT i a b
  · intro p k a b c d
    rw [c2 _ (by omega) (by omega)]; exact lZ p k a b c d
  · intro i a b
    obtain ⟨d1, d2, d3, d4⟩ := c3 i a b
    rw [d1, d2, d3, d4]
    exact lA i a b
theorem LR_cp {t t' : Hp} {o o' : Nat} {b b' : Int} (hL : LOkO t o) (hR : LR t o b) (c1 : ∀ j, (0 ≤ j ∧ j ≤ 6) ∨ j = 8 → t' o' j = t o j) (c2 : ∀ j, 0 ≤ j → j < 30 → t' (o' + 1) j = t (o + 1) j) (c3 : ∀ j, 0 ≤ j → j < t o 8 → t' (o' + 2) j = t (o + 2) j ∧ t' (o' + 3) j = t (o + 3) j ∧ t' (o' + 4) j = t (o + 4) j ∧ t' (o' + 5) j = t (o + 5) j) (d1 : t' 173 b' = t 173 b) (d2 : ∀ j, 0 ≤ j → j < 6 → t' 174 (6 * b' + j) = t 174 (6 * b + j)) (d3 : ∀ j, 0 ≤ j → j < 30 → t' 175 (30 * b' + j) = t 175 (30 * b + j)) (d4 : ∀ j, 0 ≤ j → j < 160 → t' 176 (160 * b' + j) = t 176 (160 * b + j)) : LR t' o' b' := by
  obtain ⟨l0, l1, l2, l3, l4, l5, l6, l8, _⟩ := hL
  obtain ⟨n6, n0, n1, n2, n3, n4, n5, nT, nA⟩ := hR
  have z0 := d2 0 (by omega) (by omega)
  rw [Int.add_zero, Int.add_zero] at z0
  unfold LR
  rw [c1 1 (by omega), c1 2 (by omega), c1 3 (by omega), c1 4 (by omega), c1 5 (by omega), c1 6 (by omega), c1 8 (by omega), d1, z0, d2 1 (by omega) (by omega), d2 2 (by omega) (by omega), d2 3 (by omega) (by omega), d2 4 (by omega) (by omega), d2 5 (by omega) (by omega)]
  refine ⟨n6, n0, n1, n2, n3, n4, n5, ?_, ?_⟩
  · intro i x y
    rw [d3 i x (by omega), c2 i x (by omega)]; exact nT i x y
  · intro i x y
    have z1 := d4 (4 * i) (by omega) (by omega)
    have z2 := d4 (4 * i + 1) (by omega) (by omega)
    have z3 := d4 (4 * i + 2) (by omega) (by omega)
    have z4 := d4 (4 * i + 3) (by omega) (by omega)
    rw [← Int.add_assoc, ← Int.add_assoc] at z2 z3 z4
    obtain ⟨e1, e2, e3, e4⟩ := c3 i x y
    rw [z1, z2, z3, z4, e1, e2, e3, e4]
    exact nA i x y
theorem c_isImg {h : Hp} {a : Int} (w : wr a = a) : sf_isImage h a = some (bI (0 ≤ a ∧ a ≤ 2)) := by
  unfold sf_isImage bI
  rw [w, show wr 3 = 3 from rfl]
  by_cases q1 : 0 ≤ a
  · by_cases q2 : a < 3
    · rw [if_pos (show 0 ≤ a ∧ a ≤ 2 by omega)]; simp [q1, q2, chk]
    · rw [if_neg (show ¬ (0 ≤ a ∧ a ≤ 2) by omega)]; simp [q1, q2, chk]
  · rw [if_neg (show ¬ (0 ≤ a ∧ a ≤ 2) by omega)]; simp [q1, chk]
theorem st_image : St_image INV := by
  intro h hI a1 w1
  have b1 := in32 w1
  have q1 := c_isImg (h := h) w1
  by_cases g : 0 ≤ a1 ∧ a1 ≤ 2
  · obtain ⟨k, ek⟩ : ∃ k : Nat, k = a1.toNat := ⟨_, rfl⟩
    have e1 : (k : Int) = a1 := by omega
    obtain ⟨h1, ec, c1, c2, c3, cf⟩ := c_land (h := h) (o := 37 + 6 * k) (o0 := 9) (INV_l hI) (by omega)
    obtain ⟨t, et, tf, t3, t4, t5, t6⟩ := m_copyField (t := up (up h1 16 a1 1) 167 0 0) (x := 0) (y := 1 + a1) (by omega) (by omega) (by omega)
    have q2 := m_in (t := up (up h1 16 a1 1) 167 0 0) (a := a1) (x := 0) (y := 2) (by omega) (by omega) (by omega)
    refine ⟨0, up h1 16 a1 1, 0, up t 177 a1 1, ?_, ?_, rfl, ?_⟩
    · simp (disch := omega) only [sf_image, q1, w1, ← ek, ec, bd_some, lt_eq, bI_wr, bI_t, bI_f, if_neg, if_pos, if_true, if_false, wr_id, chk_t]
    · simp (disch := omega) only [md_image, w1, q2, et, bd_some, lt_eq, bI_wr, bI_t, bI_f, if_neg, if_pos, if_true, if_false, wr_id, chk_t]
    · obtain ⟨u, eu⟩ : ∃ u, u = up t 177 a1 1 := ⟨_, rfl⟩
      rw [← eu]
      have lo : ∀ a, a ≠ 16 → a < 167 → u a = h1 a := by
        intro a p q
        rw [eu, up_nk (by omega), tf a (by omega), up_nk (by omega), up_nk p]
      have u0 : ∀ a, a ≠ 16 → a < 167 → (a < 37 + 6 * k ∨ 37 + 6 * k + 5 < a) → u a = h a := by
        intro a p q r
        rw [lo a p q, cf a r]
      have ub : ∀ a, ((167 < a ∧ a < 173) ∨ 177 < a) → u a = h a := by
        intro a ha
        rw [eu, up_nk (by omega), tf a (by omega), up_nk (by omega), up_nk (by omega), cf a (by omega)]
      have um : ∀ a, 173 ≤ a → a ≤ 176 → u a = t a := by
        intro a p q
        rw [eu, up_nk (by omega)]
      have ht : ∀ a, 173 ≤ a → a ≤ 176 → up (up h1 16 a1 1) 167 0 0 a = h a := by
        intro a p q
        rw [up_nk (by omega), up_nk (by omega), cf a (by omega)]
      have u167 : ∀ j, j ≠ 0 → u 167 j = h 167 j := by
        intro j hj
        rw [eu, up_nk (by omega), tf 167 (by omega), up_ni hj, up_nk (by omega), cf 167 (by omega)]
      have u16 : ∀ j, u 16 j = if j = a1 then 1 else h 16 j := by
        intro j
        rw [eu, up_nk (by omega), tf 16 (by omega), up_nk (by omega)]
        by_cases z : j = a1
        · rw [z, up_eq, if_pos rfl]
        · rw [up_ni z, if_neg z, cf 16 (by omega)]
      have u177 : ∀ j, u 177 j = if j = a1 then 1 else h 177 j := by
        intro j
        rw [eu]
        by_cases z : j = a1
        · rw [z, up_eq, if_pos rfl]
        · rw [up_ni z, if_neg z, tf 177 (by omega), up_nk (by omega), up_nk (by omega), cf 177 (by omega)]
      obtain ⟨bT, bF, bL, b9, bI', bS⟩ := hI.1
      have t3' : ∀ j, j ≠ 1 + a1 → u 173 j = h 173 j := fun j hj => by rw [um 173 (by omega) (by omega), t3.2 j hj, ht 173 (by omega) (by omega)]
      have t4' : ∀ j, (j < 6 * (1 + a1) ∨ 6 * (1 + a1) + 6 ≤ j) → u 174 j = h 174 j := fun j hj => by rw [um 174 (by omega) (by omega), t4.2 j hj, ht 174 (by omega) (by omega)]
      have t5' : ∀ j, (j < 30 * (1 + a1) ∨ 30 * (1 + a1) + 30 ≤ j) → u 175 j = h 175 j := fun j hj => by rw [um 175 (by omega) (by omega), t5.2 j hj, ht 175 (by omega) (by omega)]
      have t6' : ∀ j, (j < 160 * (1 + a1) ∨ 160 * (1 + a1) + 160 ≤ j) → u 176 j = h 176 j := fun j hj => by rw [um 176 (by omega) (by omega), t6.2 j hj, ht 176 (by omega) (by omega)]
      have l5 := b9.2.2.2.2.2.1
      have l8 := b9.2.2.2.2.2.2.2.1
      refine INV_keep hI ⟨TaR_fr bT (by rw [u0 1 (by omega) (by omega) (by omega)]) (u167 6 (by omega)) (u0 2 (by omega) (by omega) (by omega)) (ub 172 (by omega)), FaR_fr bF (by rw [u0 1 (by omega) (by omega) (by omega)]) (by rw [u0 1 (by omega) (by omega) (by omega)]) (u167 14 (by omega)) (u167 15 (by omega)), ?_, L9_fr b9 (fun a ha => u0 a (by omega) (by omega) (by omega)), ?_, ?_⟩ (by rw [u0 0 (by omega) (by omega) (by omega)]) (by rw [u0 0 (by omega) (by omega) (by omega)]) (fun a ha => u0 a (by omega) (by omega) (by omega))
      · refine LR_L0.mp (LR_fr (LR_L0.mpr bL) l5.2 l8.2 (fun x p q => u0 x (by omega) (by omega) (by omega)) (t3' 0 (by omega)) (fun j p q => t4' _ (by omega)) (fun j p q => t5' _ (by omega)) (fun j p q => t6' _ (by omega)))
      · intro i hi
        by_cases z : i = k
        · subst z
          have e16 : u 16 (i : Int) = 1 := by rw [u16, if_pos e1]
          have e177 : u 177 (i : Int) = 1 := by rw [u177, if_pos e1]
          have d1 : ∀ j, (0 ≤ j ∧ j ≤ 6) ∨ j = 8 → u (37 + 6 * i) j = h 9 j := fun j p => by rw [lo _ (by omega) (by omega)]; exact c1 j p
          have d2 : ∀ j, 0 ≤ j → j < 30 → u (37 + 6 * i + 1) j = h (9 + 1) j := fun j p q => by rw [lo _ (by omega) (by omega)]; exact c2 j p q
          have d3 : ∀ j, 0 ≤ j → j < h 9 8 → u (37 + 6 * i + 2) j = h (9 + 2) j ∧ u (37 + 6 * i + 3) j = h (9 + 3) j ∧ u (37 + 6 * i + 4) j = h (9 + 4) j ∧ u (37 + 6 * i + 5) j = h (9 + 5) j := fun j p q => by
            rw [lo _ (by omega) (by omega), lo _ (by omega) (by omega), lo _ (by omega) (by omega), lo _ (by omega) (by omega)]; exact c3 j p q
          refine ⟨LR_cp (t := h) (o := 9) (b := 0) b9 (LR_L0.mpr bL) d1 d2 d3 ?_ ?_ ?_ ?_, LOk_cp (t := h) (o := 9) b9 d1 d2 d3, by rw [e16, e177], Or.inr e16⟩
          · rw [um 173 (by omega) (by omega), e1, t3.1, ht 173 (by omega) (by omega)]
          · intro j p q
            rw [um 174 (by omega) (by omega), e1, t4.1 j p q, ht 174 (by omega) (by omega)]
          · intro j p q
            rw [um 175 (by omega) (by omega), e1, t5.1 j p q, ht 175 (by omega) (by omega)]
          · intro j p q
            rw [um 176 (by omega) (by omega), e1, t6.1 j p q, ht 176 (by omega) (by omega)]
        · exact ImR_fr (bI' i hi) (fun x p q => u0 x (by omega) (by omega) (by omega)) (t3' _ (by omega)) (fun j p q => t4' _ (by omega)) (fun j p q => t5' _ (by omega)) (fun j p q => t6' _ (by omega)) (by rw [u16, if_neg (by omega)]) (by rw [u177, if_neg (by omega)])
      · intro i hi
        exact SlR_fr (bS i hi) (u0 _ (by omega) (by omega) (by omega)) (u0 _ (by omega) (by omega) (by omega)) (by rw [ub 168 (by omega)]) (by rw [ub 169 (by omega)]) (fun j _ _ => by rw [ub 170 (by omega)])
  · have q2 := m_in (t := up h 167 0 0) (a := a1) (x := 0) (y := 2) (by omega) (by omega) (by omega)
    refine ⟨-2, h, -2, up h 167 0 0, ?_, ?_, rfl, (Mf_self hI).1⟩
    · simp (disch := omega) only [sf_image, q1, bd_some, lt_eq, bI_wr, bI_t, bI_f, if_neg, if_pos, if_true, if_false, wr_id, chk_t]
    · simp (disch := omega) only [md_image, w1, q2, bd_some, lt_eq, bI_wr, bI_t, bI_f, if_neg, if_pos, if_true, if_false, wr_id, chk_t]
theorem st_back : St_back INV := by
  intro h hI a1 w1
  have b1 := in32 w1
  have q1 := c_isImg (h := h) w1
  have q2 := m_in (t := up h 167 0 0) (a := a1) (x := 0) (y := 2) (by omega) (by omega) (by omega)
  by_cases g : 0 ≤ a1 ∧ a1 ≤ 2
  · obtain ⟨k, ek⟩ : ∃ k : Nat, k = a1.toNat := ⟨_, rfl⟩
    have e1 : (k : Int) = a1 := by omega
    obtain ⟨bT, bF, bL, b9, bI', bS⟩ := hI.1
    obtain ⟨iR, iL, i1, i2⟩ := bI' k (by omega)
    rw [e1] at i1 i2
    by_cases g2 : h 16 a1 = 0
    · have e177 : up h 167 0 0 177 a1 = 0 := by rw [up_nk (by omega), ← i1]; exact g2
      refine ⟨-6, h, -6, up h 167 0 0, ?_, ?_, rfl, (Mf_self hI).1⟩
      · simp (disch := omega) only [sf_back, q1, w1, g2, bd_some, lt_eq, bI_wr, bI_t, bI_f, if_neg, if_pos, if_true, if_false, wr_id, chk_t]
      · simp (disch := omega) only [md_back, w1, q2, e177, bd_some, lt_eq, bI_wr, bI_t, bI_f, if_neg, if_pos, if_true, if_false, wr_id, chk_t]
    · obtain ⟨h1, ec, c1, c2, c3, cf⟩ := c_land (h := h) (o := 9) (o0 := 37 + 6 * k) iL (by omega)
      obtain ⟨t, et, tf, t3, t4, t5, t6⟩ := m_copyField (t := up (fgH h1) 167 0 0) (x := 1 + a1) (y := 0) (by omega) (by omega) (by omega)
      have fg : ∀ a, a ≠ 0 → fgH h1 a = h1 a := fun a ha => by unfold fgH; rw [up_nk ha, up_nk ha]
      have q2 := m_in (t := up (fgH h1) 167 0 0) (a := a1) (x := 0) (y := 2) (by omega) (by omega) (by omega)
      have e177 : up (fgH h1) 167 0 0 177 a1 = h 16 a1 := by rw [up_nk (by omega), fg _ (by omega), cf _ (by omega), ← i1]
      refine ⟨0, fgH h1, 0, t, ?_, ?_, rfl, ?_⟩
      · simp (disch := omega) only [sf_back, q1, w1, ← ek, ec, fg_c, bd_some, lt_eq, bI_wr, bI_t, bI_f, if_neg, if_pos, if_true, if_false, wr_id, chk_t]
      · simp (disch := omega) only [md_back, w1, q2, e177, et, bd_some, lt_eq, bI_wr, bI_t, bI_f, if_neg, if_pos, if_true, if_false, wr_id, chk_t]
      · have lo : ∀ a, a ≠ 0 → a < 167 → t a = h1 a := by
          intro a p q
          rw [tf a (by omega), up_nk (by omega), fg a p]
        have u0 : ∀ a, a ≠ 0 → a < 167 → (a < 9 ∨ 14 < a) → t a = h a := by
          intro a p q r
          rw [lo a p q, cf a r]
        have ub : ∀ a, ((167 < a ∧ a < 173) ∨ 176 < a) → t a = h a := by
          intro a ha
          rw [tf a (by omega), up_nk (by omega), fg a (by omega), cf a (by omega)]
        have ht : ∀ a, 173 ≤ a → a ≤ 176 → up (fgH h1) 167 0 0 a = h a := by
          intro a p q
          rw [up_nk (by omega), fg a (by omega), cf a (by omega)]
        have u167 : ∀ j, j ≠ 0 → t 167 j = h 167 j := by
          intro j hj
          rw [tf 167 (by omega), up_ni hj, fg 167 (by omega), cf 167 (by omega)]
        have z0 : ∀ j, j ≠ 11 → j ≠ 12 → t 0 j = h 0 j := by
          intro j p q
          rw [tf 0 (by omega), up_nk (by omega)]
          unfold fgH
          rw [up_ni q, up_ni p, cf 0 (by omega)]
        have d1 : ∀ j, (0 ≤ j ∧ j ≤ 6) ∨ j = 8 → t 9 j = h (37 + 6 * k) j := fun j p => by rw [lo _ (by omega) (by omega)]; exact c1 j p
        have d2 : ∀ j, 0 ≤ j → j < 30 → t (9 + 1) j = h (37 + 6 * k + 1) j := fun j p q => by rw [lo _ (by omega) (by omega)]; exact c2 j p q
        have d3 : ∀ j, 0 ≤ j → j < h (37 + 6 * k) 8 → t (9 + 2) j = h (37 + 6 * k + 2) j ∧ t (9 + 3) j = h (37 + 6 * k + 3) j ∧ t (9 + 4) j = h (37 + 6 * k + 4) j ∧ t (9 + 5) j = h (37 + 6 * k + 5) j := fun j p q => by
          rw [lo _ (by omega) (by omega), lo _ (by omega) (by omega), lo _ (by omega) (by omega), lo _ (by omega) (by omega)]; exact c3 j p q
        refine INV_stale (Bas_L hI.1 (LR_L0.mp (LR_cp (t := h) (o := 37 + 6 * k) (o' := 9) (b := 1 + (k : Int)) iL iR d1 d2 d3 ?_ ?_ ?_ ?_)) (LOk_cp (t := h) (o := 37 + 6 * k) (o' := 9) iL d1 d2 d3) (z0 1 (by omega) (by omega)) (u167 6 (by omega)) (u167 14 (by omega)) (u167 15 (by omega)) ?_ ?_ ?_ ?_ ?_) ?_ ?_
        · rw [e1, t3.1, ht 173 (by omega) (by omega)]
        · intro j p q
          rw [e1, t4.1 j p q, ht 174 (by omega) (by omega)]
        · intro j p q
          rw [e1, t5.1 j p q, ht 175 (by omega) (by omega)]
        · intro j p q
          rw [e1, t6.1 j p q, ht 176 (by omega) (by omega)]
        · intro a ha
          by_cases z : a < 167
          · exact u0 a (by omega) z (by omega)
          · exact ub a (by omega)
        · intro j p
          rw [t3.2 j (by omega), ht 173 (by omega) (by omega)]
        · intro j p
          rw [t4.2 j (by omega), ht 174 (by omega) (by omega)]
        · intro j p
          rw [t5.2 j (by omega), ht 175 (by omega) (by omega)]
        · intro j p
          rw [t6.2 j (by omega), ht 176 (by omega) (by omega)]
        · rw [tf 0 (by omega), up_nk (by omega)]; unfold fgH; rw [up_ni (by omega), up_eq]
        · rw [tf 0 (by omega), up_nk (by omega)]; unfold fgH; rw [up_eq]
  · refine ⟨-2, h, -2, up h 167 0 0, ?_, ?_, rfl, (Mf_self hI).1⟩
    · simp (disch := omega) only [sf_back, q1, bd_some, lt_eq, bI_wr, bI_t, bI_f, if_neg, if_pos, if_true, if_false, wr_id, chk_t]
    · simp (disch := omega) only [md_back, w1, q2, bd_some, lt_eq, bI_wr, bI_t, bI_f, if_neg, if_pos, if_true, if_false, wr_id, chk_t]
