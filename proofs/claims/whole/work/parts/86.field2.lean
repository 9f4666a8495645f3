/-! Layer 2: field() -/
theorem Bas_P {h h' : Hp} (hB : Bas h) (t : TaR h') (f : FaR h') (l0 : L0 h') (l9 : LOk9 h') (hf : ∀ a, (a = 16 ∨ (37 ≤ a ∧ a ≤ 62) ∨ (168 ≤ a ∧ a ≤ 170) ∨ a = 177) → h' a = h a) (h3 : ∀ j, 1 ≤ j → j ≤ 3 → h' 173 j = h 173 j) (h4 : ∀ j, 6 ≤ j → j < 24 → h' 174 j = h 174 j) (h5 : ∀ j, 30 ≤ j → j < 120 → h' 175 j = h 175 j) (h6 : ∀ j, 160 ≤ j → j < 640 → h' 176 j = h 176 j) : Bas h' := by
  obtain ⟨b1, b2, b3, b4, b5, b6⟩ := hB
  refine ⟨t, f, l0, l9, ?_, ?_⟩
  · intro k hk
    exact ImR_fr (b5 k hk) (fun x p q => hf x (by omega)) (h3 _ (by omega) (by omega)) (fun j _ _ => h4 _ (by omega) (by omega)) (fun j _ _ => h5 _ (by omega) (by omega)) (fun j _ _ => h6 _ (by omega) (by omega)) (by rw [hf 16 (by omega)]) (by rw [hf 177 (by omega)])
  · intro i hi
    exact SlR_fr (b6 i hi) (hf _ (by omega)) (hf _ (by omega)) (by rw [hf 168 (by omega)]) (by rw [hf 169 (by omega)]) (fun j _ _ => by rw [hf 170 (by omega)])
theorem bind3 {α β γ δ : Type} {A : Option α} {B : α → Option β} {C : β → Option γ} {x : γ} (e : Option.bind A (fun a => Option.bind (B a) (fun b => C b)) = some x) (K : γ → Option δ) : Option.bind A (fun a => Option.bind (B a) (fun b => Option.bind (C b) K)) = K x := by
  cases A with
  | none => cases e
  | some a =>
    have e' : Option.bind (B a) (fun b => C b) = some x := e
    show Option.bind (B a) (fun b => Option.bind (C b) K) = K x
    cases hb : B a with
    | none => rw [hb] at e'; cases e'
    | some b =>
      rw [hb] at e'
      have e2 : C b = some x := e'
      show Option.bind (C b) K = K x
      rw [e2, bd_some]
def ovr (m : Hp) : Hp := up (up (up m 167 6 0) 167 14 (m 167 12)) 167 15 (if wr (m 167 12) = 0 then -1 else m 167 13)
theorem ovr_a (m : Hp) {a : Nat} (h : a ≠ 167) : ovr m a = m a := by unfold ovr; rw [up_nk h, up_nk h, up_nk h]
theorem ovr_12 (m : Hp) : ovr m 167 12 = m 167 12 := by unfold ovr; rw [up_ni (by omega), up_ni (by omega), up_ni (by omega)]
theorem ovr_6 (m : Hp) : ovr m 167 6 = 0 := by unfold ovr; rw [up_ni (by omega), up_ni (by omega), up_eq]
theorem ovr_14 (m : Hp) : ovr m 167 14 = m 167 12 := by unfold ovr; rw [up_ni (by omega), up_eq]
theorem ovr_15 (m : Hp) : ovr m 167 15 = if wr (m 167 12) = 0 then -1 else m 167 13 := by unfold ovr; rw [up_eq]
theorem m_fieldE {X m' : Hp} (e : Option.bind (md_clears (up X 167 0 0)) (fun r2 => Option.bind (md_begins r2) (fun r3 => iter FU md_field_b1 r3)) = some m') : md_field X = if wr (m' 167 12) = 0 then Option.bind (md_copyField (ovr m') 4 0) (fun r29 => some (r29 173 0, r29)) else some (-4, ovr m') := by
  unfold md_field
  rw [lt_eq, bind3 e]
  have eo : md_isOver m' = some (ovr m') := by
    unfold md_isOver ovr
    rw [lt_eq, lt_eq, lt_eq, up_ni (show (12 : Int) ≠ 6 by omega), up_ni (show (12 : Int) ≠ 14 by omega), up_ni (show (12 : Int) ≠ 6 by omega), up_ni (show (13 : Int) ≠ 14 by omega), up_ni (show (13 : Int) ≠ 6 by omega)]
  rw [eo, bd_some, ovr_12]
theorem lok_dr {c m t : Hp} (hD : Dr c m) (h0 : c 3 0 = if 0 < c 3 6 then 1 else 0) (h3 : t 3 = c 3) (h4 : t 4 = c 4) : LOkO t 3 := by
  obtain ⟨⟨d1, d2, d3, d4, d5, d6⟩, ⟨d7, d8⟩, ⟨da, db, dc, dd, de⟩, dT, dZ, dY, dM, dL⟩ := hD
  have l7 : 0 ≤ c 3 6 ∧ c 3 6 ≤ 7 := by rcases dL with q | q <;> omega
  unfold LOkO LOk
  show _ ∧ _ ∧ _ ∧ _ ∧ _ ∧ _ ∧ _ ∧ _ ∧ (∀ i, 0 ≤ i → i < 30 → -9 ≤ t 4 i ∧ t 4 i ≤ 9) ∧ (∀ p k, 0 ≤ p → p < 6 → t 3 1 ≤ k → k < 5 → t 4 (p * 5 + k) = 0) ∧ _
  rw [h3, h4]
  refine ⟨?_, da, db, dc, dd, de, l7, by omega, dT, dZ, fun i a b => by omega, fun q => ?_, fun q => ?_⟩
  · rw [h0]; split
    · exact Or.inr rfl
    · exact Or.inl rfl
  · rw [h0] at q
    by_cases z : 0 < c 3 6
    · rw [if_pos z] at q; exact absurd q (by decide)
    · rcases dL with y | y <;> omega
  · rw [h0] at q
    by_cases z : 0 < c 3 6
    · rcases dL with y | y <;> omega
    · rw [if_neg z] at q; exact absurd q (by decide)
theorem st_field : St_field INV := by
  intro h hI
  have hB := hI.1
  obtain ⟨⟨t1, t2, t3⟩, b2, b3, b4, b5, b6⟩ := hB
  have hT : TxT (h 2) (h 1 2) := ⟨t2, fun j a b => (t3 j a b).2⟩
  obtain ⟨r, c', m0, e1, _, fd, _, k⟩ := s_read hT (c := h) (m := h) ⟨rfl, fun _ _ _ => rfl⟩ ⟨t1.symm, fun j a b => (t3 j a b).1.symm⟩
  have c0 : c' 0 = h 0 := fd 0 (by omega) (by omega) (by omega)
  -- the model, on a heap that has what h has
  have go : ∀ X : Hp, (∀ a, 167 ≤ a → X a = h a) → ∃ m', Option.bind (md_clears (up X 167 0 0)) (fun r2 => Option.bind (md_begins r2) (fun r3 => iter FU md_field_b1 r3)) = some m' ∧ MD (up X 167 0 0) m' ∧ ((r = 1 ∧ m' 167 12 = 0 ∧ c' 1 0 = 0 ∧ c' 1 1 = -1 ∧ Dr c' m' ∧ c' 3 0 = if 0 < c' 3 6 then 1 else 0) ∨ (r = 0 ∧ Bd c' m')) := by
    intro X hX
    obtain ⟨r2, c2, m', x1, x2, x3, x4, x5⟩ := s_read hT (c := h) (m := up X 167 0 0) ⟨rfl, fun _ _ _ => rfl⟩ ⟨by rw [up_ni (by omega), hX 167 (by omega)]; exact t1.symm, fun j a b => by rw [up_nk (by omega), hX 172 (by omega)]; exact (t3 j a b).1.symm⟩
    rw [e1] at x1
    have y := Prod.mk.inj (Option.some.inj x1)
    rw [← y.1, ← y.2] at x5
    exact ⟨m', x2, x4, x5⟩
  obtain ⟨Y, eY⟩ : ∃ Y, Y = up c' 1 2 0 := ⟨_, rfl⟩
  have Ya : ∀ a, a ≠ 1 → a ≠ 3 → a ≠ 4 → Y a = h a := fun a q2 q3 q4 => by rw [eY, up_nk q2]; exact fd a q2 q3 q4
  have Yc : ∀ a, a ≠ 1 → Y a = c' a := fun a q0 => by rw [eY, up_nk q0]
  have Y0 : Y 0 = h 0 := by rw [Yc 0 (by omega), c0]
  have Y12 : Y 1 2 = 0 := by rw [eY, up_eq]
  have Y10 : Y 1 0 = c' 1 0 := by rw [eY, up_ni (by omega)]
  have Y11 : Y 1 1 = c' 1 1 := by rw [eY, up_ni (by omega)]
  rcases k with ⟨k1, k2, k3, k4, k5, k6⟩ | ⟨k1, k2⟩
  · have lk : LOkO Y 3 := lok_dr k5 k6 (Yc 3 (by omega)) (Yc 4 (by omega))
    obtain ⟨Z, ez, z1, z2, z3, z4⟩ := c_land (h := Y) (o := 9) (o0 := 3) lk (by omega)
    have Za : ∀ a, a ≠ 0 → (a < 9 ∨ 14 < a) → fgH Z a = Y a := fun a q0 q1 => by unfold fgH; rw [up_nk q0, up_nk q0]; exact z4 a (by omega)
    have Z9 : ∀ a, 9 ≤ a → a ≤ 14 → fgH Z a = Z a := fun a q0 q1 => by unfold fgH; rw [up_nk (by omega), up_nk (by omega)]
    obtain ⟨m', x1, x2, x3⟩ := go (fgH Z) (fun a ha => by rw [Za a (by omega) (by omega)]; exact Ya a (by omega) (by omega) (by omega))
    rcases x3 with ⟨y1, y2, y3, y4, y5, y6⟩ | ⟨y1, y2⟩
    · obtain ⟨t, et, tf, tg3, tg4, tg5, tg6⟩ := m_copyField (t := ovr m') (x := 4) (y := 0) (by omega) (by omega) (by omega)
      have em : md_field (fgH Z) = some (t 173 0, t) := by rw [m_fieldE x1, y2, if_pos (show wr 0 = 0 from rfl), et, bd_some]
      -- cells of the class in the end
      have tc : ∀ a, a < 167 → t a = fgH Z a := fun a ha => by rw [tf a (by omega), ovr_a m' (by omega), x2.1 a (by omega) (by omega) (by omega) (by omega), up_nk (by omega)]
      have o3 : ovr m' 3 = c' 3 := by rw [ovr_a m' (by omega), x2.1 3 (by omega) (by omega) (by omega) (by omega), up_nk (by omega), Za 3 (by omega) (by omega), Yc 3 (by omega)]
      have o4 : ovr m' 4 = c' 4 := by rw [ovr_a m' (by omega), x2.1 4 (by omega) (by omega) (by omega) (by omega), up_nk (by omega), Za 4 (by omega) (by omega), Yc 4 (by omega)]
      have lo : LOkO (ovr m') 3 := lok_dr y5 y6 o3 o4
      have c38 : c' 3 8 = 0 := y5.2.1.1
      have lr : LR (ovr m') 3 4 := by
        obtain ⟨⟨d1, d2, d3, d4, d5, d6⟩, ⟨d7, d8⟩, ⟨da, db, dc, dd, de⟩, dT, dZ, dY, dM, dL⟩ := y5
        unfold LR
        show _ ∧ _ ∧ _ ∧ _ ∧ _ ∧ _ ∧ _ ∧ (∀ i, 0 ≤ i → i < 5 * ovr m' 3 5 → ovr m' 175 (30 * 4 + i) = ovr m' 4 i) ∧ _
        rw [o3, o4, ovr_a m' (show 173 ≠ 167 by omega), ovr_a m' (show 174 ≠ 167 by omega), ovr_a m' (show 175 ≠ 167 by omega)]
        exact ⟨d6.symm, d1.symm, d2.symm, d3.symm, d4.symm, d5.symm, by rw [d7]; exact d8, dM, fun i a b => by omega⟩
      have q1 : ∀ j, (0 ≤ j ∧ j ≤ 6) ∨ j = 8 → t 9 j = ovr m' 3 j := fun j hj => by rw [tc 9 (by omega), Z9 9 (by omega) (by omega), z1 j hj, o3, Yc 3 (by omega)]
      have q2 : ∀ j, 0 ≤ j → j < 30 → t (9 + 1) j = ovr m' (3 + 1) j := fun j a b => by
        show t 10 j = ovr m' 4 j
        rw [tc 10 (by omega), Z9 10 (by omega) (by omega), z2 j a b, o4, Yc (3 + 1) (by omega)]
      have q3 : ∀ j, 0 ≤ j → j < ovr m' 3 8 → t (9 + 2) j = ovr m' (3 + 2) j ∧ t (9 + 3) j = ovr m' (3 + 3) j ∧ t (9 + 4) j = ovr m' (3 + 4) j ∧ t (9 + 5) j = ovr m' (3 + 5) j := fun j a b => by rw [o3, c38] at b; omega
      have l0 : L0 t := LR_L0.mp (LR_cp lo lr q1 q2 q3 tg3.1 tg4.1 tg5.1 tg6.1)
      have l9 : LOk9 t := LOk_cp lo q1 q2 q3
      have t167 : t 167 = ovr m' 167 := tf 167 (by omega)
      have t0 : t 0 = fgH Z 0 := tc 0 (by omega)
      have t12 : t 1 2 = 0 := by rw [tc 1 (by omega), Za 1 (by omega) (by omega)]; exact Y12
      have t10 : t 1 0 = c' 1 0 := by rw [tc 1 (by omega), Za 1 (by omega) (by omega)]; exact Y10
      have t11 : t 1 1 = c' 1 1 := by rw [tc 1 (by omega), Za 1 (by omega) (by omega)]; exact Y11
      have th : ∀ a, (a = 16 ∨ (37 ≤ a ∧ a ≤ 62)) → t a = h a := fun a ha => by rw [tc a (by omega), Za a (by omega) (by omega), Ya a (by omega) (by omega) (by omega)]
      have hm : ∀ a, 168 ≤ a → fgH Z a = h a := fun a ha => by rw [Za a (by omega) (by omega), Ya a (by omega) (by omega) (by omega)]
      refine ⟨c' 3 6, fgH Z, t 173 0, t, ?_, em, ?_, INV_stale (Bas_P hI.1 ⟨by rw [t12, t167, ovr_6], by rw [t12]; omega, fun j a b => by rw [t12] at b; omega⟩ ⟨by rw [t10, t167, ovr_14, y3, y2], by rw [t11, t167, ovr_15, y4, y2]; rfl⟩ l0 l9 (fun a ha => ?_) (fun j a b => ?_) (fun j a b => ?_) (fun j a b => ?_) (fun j a b => ?_)) ?_ ?_⟩
      · unfold sf_field
        rw [e1, bd_some, k1, lt_eq]
        dsimp only
        rw [← eY, if_neg (by decide), ez, bd_some, fg_c, bd_some, Z9 9 (by omega) (by omega), z1 6 (by omega), Yc 3 (by omega)]
      · rw [tg3.1, ovr_a m' (by omega), y5.1.2.2.2.2.2]
      · by_cases ha' : a < 167
        · exact th a (by omega)
        · rw [tf a (by omega), ovr_a m' (by omega), x2.1 a (by omega) (by omega) (by omega) (by omega), up_nk (by omega)]
          exact hm a (by omega)
      · rw [tg3.2 j (by omega), ovr_a m' (by omega), x2.2.2.1 j (by omega), up_nk (by omega), hm 173 (by omega)]
      · rw [tg4.2 j (by omega), ovr_a m' (by omega), x2.2.2.2.1 j (by omega), up_nk (by omega), hm 174 (by omega)]
      · rw [tg5.2 j (by omega), ovr_a m' (by omega), x2.2.2.2.2 j (by omega), up_nk (by omega), hm 175 (by omega)]
      · rw [tg6.2 j (by omega), ovr_a m' (by omega), x2.1 176 (by omega) (by omega) (by omega) (by omega), up_nk (by omega), hm 176 (by omega)]
      · rw [t0]; unfold fgH; rw [up_ni (by omega), up_eq]
      · rw [t0]; unfold fgH; rw [up_eq]
    · omega
  · obtain ⟨m', x1, x2, x3⟩ := go Y (fun a ha => Ya a (by omega) (by omega) (by omega))
    rcases x3 with ⟨y1, y2, y3, y4, y5, y6⟩ | ⟨y1, y2⟩
    · omega
    · have bm := Bd_m y2
      have tc : ∀ a, a < 167 → ovr m' a = Y a := fun a ha => by rw [ovr_a m' (by omega), x2.1 a (by omega) (by omega) (by omega) (by omega), up_nk (by omega)]
      have hm : ∀ a, 168 ≤ a → Y a = h a := fun a ha => Ya a (by omega) (by omega) (by omega)
      have h9 : ∀ a, 9 ≤ a → a < 167 → ovr m' a = h a := fun a q1 q2 => by rw [tc a q2, Ya a (by omega) (by omega) (by omega)]
      have k173 : ∀ j, j ≠ 4 → ovr m' 173 j = h 173 j := fun j hj => by rw [ovr_a m' (by omega), x2.2.2.1 j hj, up_nk (by omega), hm 173 (by omega)]
      have k174 : ∀ j, (j < 24 ∨ 29 < j) → ovr m' 174 j = h 174 j := fun j hj => by rw [ovr_a m' (by omega), x2.2.2.2.1 j hj, up_nk (by omega), hm 174 (by omega)]
      have k175 : ∀ j, (j < 120 ∨ 149 < j) → ovr m' 175 j = h 175 j := fun j hj => by rw [ovr_a m' (by omega), x2.2.2.2.2 j hj, up_nk (by omega), hm 175 (by omega)]
      have ko : ∀ a, 168 ≤ a → a ≠ 173 → a ≠ 174 → a ≠ 175 → ovr m' a = h a := fun a q0 q1 q2 q3 => by rw [ovr_a m' (by omega), x2.1 a (by omega) q1 q2 q3, up_nk (by omega), hm a q0]
      have l9 : LOk9 (ovr m') := L9_fr b4 (fun a ha => h9 a (by omega) (by omega))
      have l0 : L0 (ovr m') := LR_L0.mp (LR_fr (LR_L0.mpr b3) b4.2.2.2.2.2.1.2 b4.2.2.2.2.2.2.2.1.2 (fun x p q => h9 x (by omega) (by omega)) (k173 0 (by omega)) (fun j _ _ => k174 _ (by omega)) (fun j _ _ => k175 _ (by omega)) (fun j _ _ => by rw [ko 176 (by omega) (by omega) (by omega) (by omega)]))
      have o0 : ovr m' 0 = Y 0 := tc 0 (by omega)
      have o1 : ovr m' 1 = Y 1 := tc 1 (by omega)
      refine ⟨-4, Y, -4, ovr m', ?_, ?_, rfl, INV_keep hI (Bas_P hI.1 ⟨by rw [o1, Y12, ovr_6], by rw [o1, Y12]; omega, fun j a b => by rw [o1, Y12] at b; omega⟩ ⟨by rw [o1, Y10, ovr_14, y2.1], by rw [o1, Y11, ovr_15, if_neg (Bm_0 bm), y2.2.2]⟩ l0 l9 (fun a ha => ?_) (fun j a b => k173 j (by omega)) (fun j a b => k174 j (by omega)) (fun j a b => k175 j (by omega)) (fun j a b => by rw [ko 176 (by omega) (by omega) (by omega) (by omega)])) (by rw [o0, Y0]) (by rw [o0, Y0]) (fun a ha => h9 a (by omega) (by omega))⟩
      · unfold sf_field
        rw [e1, bd_some, k1, lt_eq]
        dsimp only
        rw [← eY, if_pos (show wr 0 = 0 from rfl)]
      · rw [m_fieldE x1, if_neg (Bm_0 bm)]
      · by_cases ha' : a < 167
        · exact h9 a (by omega) ha'
        · exact ko a (by omega) (by omega) (by omega) (by omega)
