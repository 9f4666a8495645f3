/-! Layer 2: reading: all lines; field() -/
theorem up_cg {a b : Hp} {k : Nat} {i v : Int} (h : a k = b k) : up a k i v k = up b k i v k := by
  funext x
  by_cases z : x = i
  · rw [z, up_eq, up_eq]
  · rw [up_ni z, up_ni z, h]
section
variable {T : Int → Int} {n : Int} {c m : Hp}
theorem Dr_fr {c' m' : Hp} (h : Dr c m) (h3 : c' 3 = c 3) (h4 : c' 4 = c 4) (m3 : m' 173 = m 173) (m4 : m' 174 = m 174) (m5 : m' 175 = m 175) : Dr c' m' := by
  unfold Dr at h ⊢
  rw [h3, h4, m3, m4, m5]
  exact h
theorem good_1 (h : m 167 12 = 0) : md_isGood m = some 1 := by
  unfold md_isGood
  rw [h]
  rfl
theorem good_0 (h : Bm m) : md_isGood m = some 0 := by
  unfold md_isGood
  rw [if_neg (Bm_0 h), chk_t (Or.inl rfl)]
def LCn (c : Hp) : Option (Int × Hp) := if wr (c 3 6) = 0 then Option.bind (rd_readHead c 3) (fun r11 => some (r11.1, r11.2)) else Option.bind (rd_readPerson c 3) (fun r12 => some (r12.1, r12.2))
def LMn (m : Hp) : Option Hp := if wr (m 173 4) = 0 then hdM m else Option.bind (md_lineHere m) (fun r18 => some (r18))
theorem s_ln (hT : TxT T n) (hG : Gd T n c m) (hD : Dr c m) : (∃ c' m', LCn c = some (1, c') ∧ LMn m = some m' ∧ Gd T n c' m' ∧ Dr (up c' 3 6 (c' 3 6 + 1)) (up m' 173 4 (m' 173 4 + 1)) ∧ FD c c' ∧ MD m m' ∧ c 1 5 < c' 1 5) ∨ (∃ c' m', LCn c = some (0, c') ∧ LMn m = some m' ∧ (Bd c' m' ∨ ∃ c1, Gd T n c1 m' ∧ c1 1 6 = 1 ∧ rd_fail c1 1 = some (0, c')) ∧ FD c c' ∧ MD m m') := by
  have hD' := hD
  obtain ⟨⟨d1, d2, d3, d4, d5, d6⟩, ⟨d7, d8⟩, ⟨da, db, dc, dd, de⟩, dT, dZ, dY, dM, dL⟩ := hD'
  have l7 : 0 ≤ c 3 6 ∧ c 3 6 ≤ 7 := by rcases dL with q | q <;> omega
  unfold LCn LMn
  rw [← d6, w32 (show -1000000 ≤ c 3 6 ∧ c 3 6 ≤ 1000000 by omega)]
  by_cases z : c 3 6 = 0
  · rw [if_pos z, if_pos z]
    rcases s_head hT hG hD z with ⟨c', m', e1, e2, g, d, x1, x2, f1, f2, t⟩ | ⟨c', m', e1, e2, b, f1, f2⟩
    · left
      exact ⟨c', m', by rw [e1, bd_some], e2, g, by rw [x1, x2]; exact d, f1, f2, t⟩
    · right
      exact ⟨c', m', by rw [e1, bd_some], e2, Or.inl b, f1, f2⟩
  · rw [if_neg z, if_neg z]
    rcases s_person hT hG hD (by omega) with ⟨c', m', e1, e2, g, d, f1, f2, t⟩ | ⟨c', m', e1, e2, b, f1, f2⟩
    · left
      exact ⟨c', m', by rw [e1, bd_some], by rw [e2, bd_some], g, d, f1, f2, t⟩
    · right
      exact ⟨c', m', by rw [e1, bd_some], by rw [e2, bd_some], b, f1, f2⟩
theorem s_line (hT : TxT T n) (hG : Gd T n c m) (hD : Dr c m) (hs : c 1 6 ≠ 0) {i : Int} (hi : 0 ≤ i ∧ i ≤ c 1 5) : (∃ c' m', rd_readInto_b1 3 (i, c) = some (.inl (i + 1, c')) ∧ md_field_b1 m = some (.inl m') ∧ Gd T n c' m' ∧ Dr c' m' ∧ FD c c' ∧ MD m m' ∧ c 1 5 < c' 1 5) ∨ (∃ c' m', rd_readInto_b1 3 (i, c) = some (.inr (.inr (0, c'))) ∧ md_field_b1 m = some (.inl m') ∧ Bd c' m' ∧ FD c c' ∧ MD m m') := by
  have n1 : ¬ wr 1 = 0 := by decide
  have n0 : wr 0 = 0 := rfl
  have hn := hT.1
  obtain ⟨s6, e6, p6, q5⟩ := Gd_6 hG
  have eC : rd_readInto_b1 3 (i, c) = Option.bind (LCn c) (fun s13 : Int × Hp => if wr (s13.1) = 0 then some (.inr (.inr ((0, s13.2)))) else Option.bind (rd_takeSign s13.2) (fun r15 => if wr (r15.1) = 0 then some (.inr (.inr ((0, r15.2)))) else lt (up r15.2 (3) 6 ((r15.2 (3) 6) + (1))) (fun h17 => some (.inl (i + 1, h17))))) := by
    simp only [rd_readInto_b1, hG.1.1]
    rw [w32 (show -1000000 ≤ i ∧ i ≤ 1000000 by omega), w32 (show -1000000 ≤ n ∧ n ≤ 1000000 by omega), if_pos (by omega), w32 (show -1000000 ≤ c 1 6 ∧ c 1 6 ≤ 1000000 by omega), if_neg hs]
    rfl
  have eM : md_field_b1 m = Option.bind (LMn m) (fun s19 : Hp => Option.bind (md_isGood s19) (fun r20 => Option.bind (if wr (r20) = 0 then some (s19) else Option.bind (md_ends s19) (fun r22 => some (r22))) (fun s23 : Hp => some (.inl (up s23 173 4 (s23 173 4 + 1)))))) := by
    unfold md_field_b1
    rw [good_1 hG.2.2.2.1, bd_some, if_neg n1, ← e6, w32 (show -1000000 ≤ c 1 6 ∧ c 1 6 ≤ 1000000 by omega), if_neg hs]
    rfl
  rw [eC, eM]
  rcases s_ln hT hG hD with ⟨c1, m1, e1, e2, g, d, f1, f2, t⟩ | ⟨c', m1, e1, e2, b, f1, f2⟩
  · rw [e1, e2, bd_some, bd_some, if_neg n1, good_1 g.2.2.2.1, bd_some, if_neg n1]
    dsimp only
    rcases s_sign hT g with ⟨c2, m2, x1, x2, g2, f3, f4, t2⟩ | ⟨c2, m2, x1, x2, b, f3, f4⟩
    · left
      rw [x1, x2, bd_some, bd_some, bd_some, if_neg n1, lt_eq]
      refine ⟨up c2 3 6 (c2 3 6 + 1), up m2 173 4 (m2 173 4 + 1), rfl, rfl, Gd_fr g2 (up_nk (by omega)) (up_nk (by omega)) (up_nk (by omega)) (up_nk (by omega)), ?_, FD_tr f1 (FD_tr (F2_D f3) (FD_3 _ _ _)), MD_tr f2 (MD_tr (M2_D f4) (MD_173 _)), by rw [up_nk (by omega)]; omega⟩
      refine Dr_fr d ?_ (by rw [up_nk (by omega), up_nk (by omega)]; exact f3 4 (by omega)) ?_ (by rw [up_nk (by omega), up_nk (by omega)]; exact f4.1 174 (by omega)) (by rw [up_nk (by omega), up_nk (by omega)]; exact f4.1 175 (by omega))
      · rw [f3 3 (by omega)]; exact up_cg (f3 3 (by omega))
      · rw [f4.1 173 (by omega)]; exact up_cg (f4.1 173 (by omega))
    · right
      rw [x1, x2, bd_some, bd_some, bd_some, if_pos n0]
      exact ⟨c2, up m2 173 4 (m2 173 4 + 1), rfl, rfl, Bd_fr b rfl (up_nk (by omega)), FD_tr f1 (F2_D f3), MD_tr f2 (MD_tr (M2_D f4) (MD_173 _))⟩
  · right
    rw [e1, e2, bd_some, bd_some, if_pos n0]
    rcases b with b | ⟨c1, g, x6, xf⟩
    · rw [good_0 (Bd_m b), bd_some, if_pos n0, bd_some]
      exact ⟨c', up m1 173 4 (m1 173 4 + 1), rfl, rfl, Bd_fr b rfl (up_nk (by omega)), f1, MD_tr f2 (MD_173 _)⟩
    · have es : rd_takeSign c1 = some (0, c') := by
        unfold rd_takeSign
        rw [x6, if_neg (by decide), xf, bd_some, chk_t (Or.inl rfl)]
      rcases s_sign hT g with ⟨c2, m2, x1, x2, g2, f3, f4, t2⟩ | ⟨c2, m2, x1, x2, b, f3, f4⟩
      · rw [es] at x1
        exact absurd (Prod.mk.inj (Option.some.inj x1)).1 (by decide)
      · rw [es] at x1
        have ec : c' = c2 := (Prod.mk.inj (Option.some.inj x1)).2
        rw [good_1 g.2.2.2.1, bd_some, if_neg n1, x2, bd_some, bd_some]
        exact ⟨c', up m2 173 4 (m2 173 4 + 1), rfl, rfl, Bd_fr b (by rw [ec]) (up_nk (by omega)), f1, MD_tr f2 (MD_tr (M2_D f4) (MD_173 _))⟩
theorem s_outer (hT : TxT T n) : ∀ (f : Nat) (i : Int) (c m : Hp), Gd T n c m → Dr c m → 0 ≤ i → i ≤ c 1 5 → n - c 1 5 + 2 ≤ f → ∃ o m', iter f (rd_readInto_b1 3) (i, c) = some o ∧ iter f md_field_b1 m = some m' ∧ ((∃ c', o = .inl c' ∧ Gd T n c' m' ∧ Dr c' m' ∧ FD c c' ∧ MD m m') ∨ (∃ c', o = .inr (0, c') ∧ Bd c' m' ∧ FD c c' ∧ MD m m')) := by
  have n1 : ¬ wr 1 = 0 := by decide
  have n0 : wr 0 = 0 := rfl
  have hn := hT.1
  intro f
  induction f with
  | zero =>
    intro i c m hG hD a b d
    have := (Gd_6 hG).2.2.2
    omega
  | succ f ih =>
    intro i c m hG hD a b d
    obtain ⟨s6, e6, p6, q5⟩ := Gd_6 hG
    by_cases z : c 1 6 = 0
    · have eC : rd_readInto_b1 3 (i, c) = some (.inr (.inl c)) := by
        simp only [rd_readInto_b1, hG.1.1]
        rw [w32 (show -1000000 ≤ i ∧ i ≤ 1000000 by omega), w32 (show -1000000 ≤ n ∧ n ≤ 1000000 by omega), if_pos (by omega), z, if_pos n0]
      have eM : md_field_b1 m = some (.inr m) := by
        unfold md_field_b1
        rw [good_1 hG.2.2.2.1, bd_some, if_neg n1, ← e6, z, if_pos n0]
      unfold iter
      rw [eC, eM]
      exact ⟨.inl c, m, rfl, rfl, Or.inl ⟨c, rfl, hG, hD, FD_rfl c, MD_rfl m⟩⟩
    · unfold iter
      rcases s_line hT hG hD z (i := i) ⟨a, b⟩ with ⟨c', m', e1, e2, g, dd, f1, f2, t⟩ | ⟨c', m', e1, e2, bb, f1, f2⟩
      · rw [e1, e2]
        dsimp only
        obtain ⟨o, m'', x1, x2, x3⟩ := ih (i + 1) c' m' g dd (by omega) (by omega) (by omega)
        refine ⟨o, m'', x1, x2, ?_⟩
        rcases x3 with ⟨c2, y1, y2, y3, y4, y5⟩ | ⟨c2, y1, y2, y4, y5⟩
        · exact Or.inl ⟨c2, y1, y2, y3, FD_tr f1 y4, MD_tr f2 y5⟩
        · exact Or.inr ⟨c2, y1, y2, FD_tr f1 y4, MD_tr f2 y5⟩
      · rw [e1, e2]
        dsimp only
        obtain ⟨f', ef⟩ : ∃ f', f = f' + 1 := ⟨f - 1, by omega⟩
        rw [ef]
        have eB : md_field_b1 m' = some (.inr m') := by
          unfold md_field_b1
          rw [good_0 (Bd_m bb), bd_some, if_pos n0]
        exact ⟨.inr (0, c'), m', rfl, by unfold iter; rw [eB], Or.inr ⟨c', rfl, bb, f1, f2⟩⟩
theorem c_fill4 (h : Hp) : ∃ h', jd_fill_53178 h 4 30 0 = some h' ∧ (∀ b, b ≠ 4 → h' b = h b) ∧ ∀ j : Int, 0 ≤ j → j < 30 → h' 4 j = 0 := by
  obtain ⟨g, e, r⟩ := lp (body := jd_fill_53178_b1 4 30 0) (s0 := (0, h)) (Q := fun g => (∀ b, b ≠ 4 → g b = h b) ∧ ∀ j : Int, 0 ≤ j → j < 30 → g 4 j = 0) (fun i s => s.1 = i ∧ (∀ b, b ≠ 4 → s.2 b = h b) ∧ ∀ j, 0 ≤ j → j < i → s.2 4 j = 0) 30 (by omega) (by omega) ⟨rfl, fun _ _ => rfl, fun j a b => by omega⟩ (fun i s a' b hi => by
    obtain ⟨c, g⟩ := s
    obtain ⟨q1, q2, q3⟩ := hi
    dsimp only at q1 q2 q3
    subst q1
    refine ⟨(c + 1, up g 4 c 0), ?_, rfl, fun x hx => by dsimp only; rw [up_nk hx]; exact q2 x hx, fun j u v => ?_⟩
    · unfold jd_fill_53178_b1
      dsimp only
      rw [w32 (show -1000000 ≤ c ∧ c ≤ 1000000 by omega), show wr ((30 : Nat) : Int) = 30 from w32 (by omega), if_pos b, chk_t (by omega), lt_eq]
    · dsimp only
      by_cases z : j = c
      · rw [z, up_eq]
      · rw [up_ni z]; exact q3 j u (by omega)) (fun s hi => by
    obtain ⟨c, g⟩ := s
    obtain ⟨q1, q2, q3⟩ := hi
    dsimp only at q1 q2 q3
    subst q1
    refine ⟨g, ?_, q2, q3⟩
    unfold jd_fill_53178_b1
    dsimp only
    rw [show wr ((30 : Nat) : Int) = 30 from w32 (by omega), show wr 30 = 30 from w32 (by omega), if_neg (by omega)])
  exact ⟨g, by unfold jd_fill_53178; rw [e]; rfl, r⟩
theorem c_wipe3 (h : Hp) : ∃ h', ld_wipe h 3 = some h' ∧ (∀ a, a ≠ 3 → a ≠ 4 → h' a = h a) ∧ (∀ j, (0 ≤ j ∧ j ≤ 6) ∨ j = 8 → h' 3 j = 0) ∧ ∀ j, 0 ≤ j → j < 30 → h' 4 j = 0 := by
  obtain ⟨g, e, f1, f2⟩ := c_fill4 (up (up (up (up (up (up (up h 3 0 0) 3 1 0) 3 2 0) 3 3 0) 3 4 0) 3 5 0) 3 6 0)
  refine ⟨up g 3 8 0, ?_, fun a h1 h2 => by rw [up_nk h1, f1 a h2, up_nk h1, up_nk h1, up_nk h1, up_nk h1, up_nk h1, up_nk h1, up_nk h1], fun j hj => ?_, fun j a b => by rw [up_nk (by omega)]; exact f2 j a b⟩
  · unfold ld_wipe
    rw [lt_eq, lt_eq, lt_eq, lt_eq, lt_eq, lt_eq, lt_eq]
    show Option.bind (jd_fill_53178 _ 4 30 0) _ = _
    rw [e, bd_some, lt_eq]
  · by_cases z8 : j = 8
    · rw [z8, up_eq]
    · rw [up_ni z8, f1 3 (by omega)]
      by_cases z6 : j = 6
      · rw [z6, up_eq]
      · rw [up_ni z6]
        by_cases z5 : j = 5
        · rw [z5, up_eq]
        · rw [up_ni z5]
          by_cases z4 : j = 4
          · rw [z4, up_eq]
          · rw [up_ni z4]
            by_cases z3 : j = 3
            · rw [z3, up_eq]
            · rw [up_ni z3]
              by_cases z2 : j = 2
              · rw [z2, up_eq]
              · rw [up_ni z2]
                by_cases z1 : j = 1
                · rw [z1, up_eq]
                · rw [up_ni z1, show j = 0 by omega, up_eq]
theorem m_clears6 (h : Hp) : ∃ h', md_clears h = some h' ∧ (∀ a, a ≠ 173 → a ≠ 174 → h' a = h a) ∧ (∀ j, j ≠ 4 → h' 173 j = h 173 j) ∧ h' 173 4 = 0 ∧ (∀ j, (j < 24 ∨ 29 < j) → h' 174 j = h 174 j) ∧ ∀ j, 24 ≤ j → j ≤ 29 → h' 174 j = 0 := by
  obtain ⟨g, e, f1, f2, f3⟩ := lp (body := md_clears_b1) (s0 := (0, up h 173 4 0)) (Q := fun g => (∀ a, a ≠ 174 → g a = up h 173 4 0 a) ∧ (∀ j, (j < 24 ∨ 29 < j) → g 174 j = h 174 j) ∧ ∀ j, 24 ≤ j → j ≤ 29 → g 174 j = 0) (fun i s => s.1 = i ∧ (∀ a, a ≠ 174 → s.2 a = up h 173 4 0 a) ∧ (∀ j, (j < 24 ∨ 29 < j) → s.2 174 j = h 174 j) ∧ ∀ j, 24 ≤ j → j < 24 + i → s.2 174 j = 0) 6 (by omega) (by omega) ⟨rfl, fun _ _ => rfl, fun j _ => by dsimp only; rw [up_nk (by omega)], fun j a b => by omega⟩ (fun i s a b hi => by
    obtain ⟨k, g⟩ := s
    obtain ⟨q1, q2, q3, q4⟩ := hi
    dsimp only at q1 q2 q3 q4
    subst q1
    refine ⟨(k + 1, up g 174 (24 + k) 0), ?_, rfl, fun a' h => by dsimp only; rw [up_nk h]; exact q2 a' h, fun x hx => by dsimp only; rw [up_ni (by omega)]; exact q3 x hx, fun x h1 h2 => ?_⟩
    · unfold md_clears_b1
      dsimp only
      rw [w32 (show -1000000 ≤ k ∧ k ≤ 1000000 by omega), w32 (show -1000000 ≤ (6 : Int) ∧ (6 : Int) ≤ 1000000 by omega), if_pos b, m_tlR g ⟨a, b⟩, bd_some]
    · dsimp only
      by_cases z : x = 24 + k
      · rw [z, up_eq]
      · rw [up_ni z]; exact q4 x h1 (by omega)) (fun s hi => by
    obtain ⟨k, g⟩ := s
    obtain ⟨q1, q2, q3, q4⟩ := hi
    dsimp only at q1 q2 q3 q4
    subst q1
    refine ⟨g, ?_, q2, q3, fun j x y => q4 j x (by omega)⟩
    unfold md_clears_b1
    dsimp only
    rw [if_neg (Int.lt_irrefl _)])
  refine ⟨g, ?_, fun a h1 h2 => by rw [f1 a h2, up_nk h1], fun j hj => by rw [f1 173 (by omega), up_ni hj], by rw [f1 173 (by omega), up_eq], f2, f3⟩
  unfold md_clears
  rw [show wr 4 = 4 from w32 (by omega), chk_t (by omega), lt_eq, e, bd_some]
/-- all of it -/
theorem s_read (hT : TxT T n) (hc : TxC T n c) (hm : m 167 6 = n ∧ ∀ j, 0 ≤ j → j < n → m 172 j = T j) : ∃ r c' m', rd_readInto c 3 = some (r, c') ∧ Option.bind (md_clears m) (fun r2 => Option.bind (md_begins r2) (fun r3 => iter FU md_field_b1 r3)) = some m' ∧ FD c c' ∧ MD m m' ∧ ((r = 1 ∧ m' 167 12 = 0 ∧ c' 1 0 = 0 ∧ c' 1 1 = -1 ∧ Dr c' m' ∧ c' 3 0 = if 0 < c' 3 6 then 1 else 0) ∨ (r = 0 ∧ Bd c' m')) := by
  have hn := hT.1
  obtain ⟨c1, ec1⟩ : ∃ c1, c1 = up (up (up c 1 4 0) 1 0 0) 1 1 (-1) := ⟨_, rfl⟩
  obtain ⟨c2, e2, w1, w2, w3⟩ := c_wipe3 c1
  obtain ⟨m1, x1, y1, y2, y3, y4, y5⟩ := m_clears6 m
  obtain ⟨m2, em2⟩ : ∃ m2, m2 = up (up (up m1 167 12 0) 167 13 (-1)) 167 7 0 := ⟨_, rfl⟩
  have c1a : ∀ a, a ≠ 1 → c1 a = c a := fun a h => by rw [ec1, up_nk h, up_nk h, up_nk h]
  have m2a : ∀ a, a ≠ 167 → m2 a = m1 a := fun a h => by rw [em2, up_nk h, up_nk h, up_nk h]
  have tc : TxC T n c2 := ⟨by rw [w1 1 (by omega) (by omega), ec1, up_ni (by omega), up_ni (by omega), up_ni (by omega)]; exact hc.1, by rw [w1 2 (by omega) (by omega), c1a 2 (by omega)]; exact hc.2⟩
  have tm : TxM T n m2 := ⟨by rw [em2, up_ni (by omega), up_ni (by omega), up_ni (by omega), y1 167 (by omega) (by omega)]; exact hm.1, by rw [m2a 172 (by omega), y1 172 (by omega) (by omega)]; exact hm.2⟩
  obtain ⟨c3, m3, e3, x3, f3, g3, tk⟩ := s_step hT tc tm (b := 0) (by omega) (by rw [w1 1 (by omega) (by omega), ec1, up_ni (by omega), up_ni (by omega), up_eq]) (by rw [em2, up_eq])
  have hG : Gd T n c3 m3 := ⟨TxC_f tc f3, TxM_f tm g3, tk, by rw [g3.2 12 (by omega), em2, up_ni (by omega), up_ni (by omega), up_eq], by rw [f3.2 0 (by omega), w1 1 (by omega) (by omega), ec1, up_ni (by omega), up_eq], by rw [f3.2 1 (by omega), w1 1 (by omega) (by omega), ec1, up_eq]⟩
  have z3 : ∀ j, (0 ≤ j ∧ j ≤ 6) ∨ j = 8 → c3 3 j = 0 := fun j hj => by rw [f3.1 3 (by omega)]; exact w2 j hj
  have z4 : ∀ j, 0 ≤ j → j < 30 → c3 4 j = 0 := fun j a b => by rw [f3.1 4 (by omega)]; exact w3 j a b
  have z5 : ∀ j, 24 ≤ j → j ≤ 29 → m3 174 j = 0 := fun j a b => by rw [g3.1 174 (by omega), m2a 174 (by omega)]; exact y5 j a b
  have z6 : m3 173 4 = 0 := by rw [g3.1 173 (by omega), m2a 173 (by omega)]; exact y3
  have hD : Dr c3 m3 := by
    unfold Dr
    rw [z3 1 (by omega), z3 2 (by omega), z3 3 (by omega), z3 4 (by omega), z3 5 (by omega), z3 6 (by omega), z3 8 (by omega), z5 24 (by omega) (by omega), z5 25 (by omega) (by omega), z5 26 (by omega) (by omega), z5 27 (by omega) (by omega), z5 28 (by omega) (by omega), z5 29 (by omega) (by omega), z6]
    exact ⟨⟨rfl, rfl, rfl, rfl, rfl, rfl⟩, ⟨rfl, rfl⟩, ⟨by omega, by omega, by omega, by omega, by omega⟩, fun i a b => by rw [z4 i a b]; omega, fun p k a b a' b' => z4 _ (by omega) (by omega), fun i a b => z4 i (by omega) b, fun i a b => by omega, Or.inl ⟨rfl, rfl, rfl⟩⟩
  have g5 := (Gd_6 hG).2.2.2
  obtain ⟨o, m', e4, x4, k⟩ := s_outer hT FU 0 c3 m3 hG hD (by omega) (by omega) (by unfold FU; omega)
  have fd : FD c c3 := fun a h1 h2 h3 => by rw [f3.1 a h1, w1 a h2 h3, c1a a h1]
  have md : MD m m3 := ⟨fun a h1 h2 h3 h4 => by rw [g3.1 a h1, m2a a h1, y1 a h2 h3], fun j hj => by rw [g3.2 j (by omega), em2, up_ni (by omega), up_ni (by omega), up_ni (by omega), y1 167 (by omega) (by omega)], fun j hj => by rw [g3.1 173 (by omega), m2a 173 (by omega)]; exact y2 j hj, fun j hj => by rw [g3.1 174 (by omega), m2a 174 (by omega)]; exact y4 j hj, fun j _ => by rw [g3.1 175 (by omega), m2a 175 (by omega), y1 175 (by omega) (by omega)]⟩
  have eM : Option.bind (md_clears m) (fun r2 => Option.bind (md_begins r2) (fun r3 => iter FU md_field_b1 r3)) = some m' := by
    unfold md_begins
    rw [x1, bd_some, lt_eq, lt_eq, lt_eq, ← em2, x3, bd_some, bd_some, x4]
  rcases k with ⟨c', k1, k2, k3, k4, k5⟩ | ⟨c', k1, k2, k4, k5⟩
  · have eC : rd_readInto c 3 = chk (((if 0 < wr (c' (3) 6) then 1 else 0) : Int) = 0 ∨ ((if 0 < wr (c' (3) 6) then 1 else 0) : Int) = 1) (lt (up c' (3) 0 ((if 0 < wr (c' (3) 6) then 1 else 0))) (fun h20 => some ((1, h20)))) := by
      unfold rd_readInto
      rw [lt_eq, lt_eq, lt_eq, ← ec1, e2, bd_some, e3, bd_some, e4, bd_some, k1]
    have l7 : 0 ≤ c' 3 6 ∧ c' 3 6 ≤ 7 := by
      have := k3.2.2.1.2.2.2.2
      rcases k3.2.2.2.2.2.2.2 with q | q <;> omega
    rw [w32 (show -1000000 ≤ c' 3 6 ∧ c' 3 6 ≤ 1000000 by omega), chk_t (by split <;> simp), lt_eq] at eC
    refine ⟨1, _, m', eC, eM, FD_tr fd (FD_tr k4 (FD_3 _ _ _)), MD_tr md k5, Or.inl ⟨rfl, k2.2.2.2.1, by rw [up_nk (by omega)]; exact k2.2.2.2.2.1, by rw [up_nk (by omega)]; exact k2.2.2.2.2.2, ?_, by rw [up_eq, up_ni (by omega)]⟩⟩
    have u3 : ∀ x, x ≠ 0 → up c' 3 0 (if 0 < c' 3 6 then 1 else 0) 3 x = c' 3 x := fun x hx => up_ni hx
    have u4 : up c' 3 0 (if 0 < c' 3 6 then 1 else 0) 4 = c' 4 := up_nk (by omega)
    unfold Dr at k3 ⊢
    rw [u3 1 (by omega), u3 2 (by omega), u3 3 (by omega), u3 4 (by omega), u3 5 (by omega), u3 6 (by omega), u3 8 (by omega), u4]
    exact k3
  · have eC : rd_readInto c 3 = some (0, c') := by
      unfold rd_readInto
      rw [lt_eq, lt_eq, lt_eq, ← ec1, e2, bd_some, e3, bd_some, e4, bd_some, k1]
    exact ⟨0, c', m', eC, eM, FD_tr fd k4, MD_tr md k5, Or.inr ⟨rfl, k2⟩⟩
end
