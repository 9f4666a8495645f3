/-! Layer 2: reading: the line of a person by both -/
section
variable {T : Int → Int} {n : Int} {c m : Hp}
def tlC (p fl i : Int) (c1 : Hp) : Option ((Int × Hp) ⊕ ((Hp) ⊕ (Int × Hp))) := Option.bind (rd_takeNumber c1 (0) ((c1 (3) 1) - (1))) (fun r48 => if wr (r48.1) = 0 then some (.inr (.inr ((0, r48.2)))) else Option.bind (rd_takeNumber r48.2 (1) (9)) (fun r50 => if wr (r50.1) = 0 then some (.inr (.inr ((0, r50.2)))) else chk (0 ≤ wr ((p * (5)) + (r48.2 (1) 8)) ∧ wr ((p * (5)) + (r48.2 (1) 8)) < 30) (lt (up r50.2 (3 + 1) (wr ((p * (5)) + (r48.2 (1) 8))) ((if wr (fl) = 0 then -(r50.2 (1) 8) else r50.2 (1) 8))) (fun h53 => some (.inl (i + 1, h53))))))
def tlM (p fl : Int) (t1 : Hp) : Option ((Hp) ⊕ (Hp)) := Option.bind (md_hasRead t1 (0)) (fun r17 => Option.bind (md_number t1 (0) ((r17) - (1))) (fun r18 => Option.bind (md_number r18.2 (1) (9)) (fun r19 => Option.bind (if wr (r19.2 (167) 12) = 0 then chk (0 ≤ wr (((5) * ((24) + (p))) + (r18.1)) ∧ wr (((5) * ((24) + (p))) + (r18.1)) < 150) (lt (up r19.2 (175) (wr (((5) * ((24) + (p))) + (r18.1))) ((if wr (fl) = 0 then -(r19.1) else r19.1))) (fun h22 => some (h22))) else some (r19.2)) (fun s24 : Hp => some (.inl (s24))))))
theorem s_tail (hT : TxT T n) (hG : Gd T n c m) {K p fl i : Int} (hK : 1 ≤ K ∧ K ≤ 5) (hp : 0 ≤ p ∧ p < 6) (k1 : c 3 1 = K) (k2 : m 174 24 = K) : (∃ c' m' k v, tlC p fl i c = some (.inl (i + 1, c')) ∧ tlM p fl m = some (.inl m') ∧ Gd T n c' m' ∧ (0 ≤ k ∧ k < K) ∧ (-9 ≤ v ∧ v ≤ 9) ∧ (∀ a, a ≠ 1 → a ≠ 4 → c' a = c a) ∧ (∀ x, x ≠ p * 5 + k → c' 4 x = c 4 x) ∧ c' 4 (p * 5 + k) = v ∧ (∀ a, a ≠ 167 → a ≠ 175 → m' a = m a) ∧ (∀ x, (x < 7 ∨ 13 < x) → m' 167 x = m 167 x) ∧ (∀ x, x ≠ 120 + (p * 5 + k) → m' 175 x = m 175 x) ∧ m' 175 (120 + (p * 5 + k)) = v ∧ c 1 5 < c' 1 5) ∨ (∃ c' m', tlC p fl i c = some (.inr (.inr (0, c'))) ∧ tlM p fl m = some (.inl m') ∧ Bd c' m' ∧ F2 c c' ∧ M2 m m') := by
  have n1 : ¬ wr 1 = 0 := by decide
  have n0 : wr 0 = 0 := rfl
  have eh : md_hasRead m 0 = some K := by rw [m_hasR m (by omega)]; exact congrArg some k2
  unfold tlC tlM
  rw [k1, eh, bd_some]
  rcases s_takeN hT hG (lo := 0) (hi := K - 1) (by omega) (by omega) with ⟨c1, m1, k, e1, e2, e3, e4, g1, f1, f2, t1⟩ | ⟨c', m', e1, e2, b, f1, f2⟩
  · rw [e1, e2, bd_some, bd_some, if_neg n1]
    simp only [e3]
    rcases s_takeN hT g1 (lo := 1) (hi := 9) (by omega) (by omega) with ⟨c2, m2, v, e5, e6, e7, e8, g2, f3, f4, t2⟩ | ⟨c', m', e5, e6, b, f3, f4⟩
    · left
      obtain ⟨u, eu, ui⟩ : ∃ u : Int, u = (if wr fl = 0 then -v else v) ∧ (-9 ≤ u ∧ u ≤ 9) := ⟨_, rfl, by split <;> omega⟩
      refine ⟨up c2 4 (p * 5 + k) u, up m2 175 (120 + (p * 5 + k)) u, k, u, ?_, ?_, Gd_fr g2 (up_nk (by omega)) (up_nk (by omega)) (up_nk (by omega)) (up_nk (by omega)), by omega, ui, fun a h1 h2 => by rw [up_nk h2, f3 a h1, f1 a h1], fun x hx => by rw [up_ni hx, f3 4 (by omega), f1 4 (by omega)], up_eq .., fun a h1 h2 => by rw [up_nk h2, f4.1 a h1, f2.1 a h1], fun x hx => by rw [up_nk (by omega), f4.2 x hx, f2.2 x hx], fun x hx => by rw [up_ni hx, f4.1 175 (by omega), f2.1 175 (by omega)], up_eq .., by rw [up_nk (by omega)]; omega⟩
      · rw [e5, bd_some, if_neg n1]
        dsimp only
        rw [e7, ← eu, w32 (show -1000000 ≤ p * 5 + k ∧ p * 5 + k ≤ 1000000 by omega), chk_t (by omega), lt_eq]
      · rw [e6, bd_some]
        dsimp only
        rw [if_pos (show wr (m2 167 12) = 0 by rw [g2.2.2.2.1]; rfl), ← eu, w32 (show -1000000 ≤ 5 * (24 + p) + k ∧ 5 * (24 + p) + k ≤ 1000000 by omega), chk_t (by omega), lt_eq, bd_some, show 5 * (24 + p) + k = 120 + (p * 5 + k) by omega]
    · right
      refine ⟨c', m', ?_, ?_, b, F2_tr f1 f3, M2_tr f2 f4⟩
      · rw [e5, bd_some, if_pos n0]
      · rw [e6, bd_some]
        dsimp only
        rw [if_neg (Bm_0 (Bd_m b)), bd_some]
  · right
    refine ⟨c', m', ?_, ?_, b, f1, f2⟩
    · rw [e1, bd_some, if_pos n0]
    · rw [e2, bd_some]
      dsimp only
      rw [b_num (Bd_m b), bd_some]
      dsimp only
      rw [if_neg (Bm_0 (Bd_m b)), bd_some]
def PL (T : Int → Int) (n p K : Int) (c0 m0 c m : Hp) : Prop := Gd T n c m ∧ (∀ a, a ≠ 1 → a ≠ 4 → c a = c0 a) ∧ (∀ a, a ≠ 167 → a ≠ 175 → m a = m0 a) ∧ (∀ j, (j < 7 ∨ 13 < j) → m 167 j = m0 167 j) ∧ (∀ j, (j < 120 ∨ 149 < j) → m 175 j = m0 175 j) ∧ (∀ i, 0 ≤ i → i < 30 → -9 ≤ c 4 i ∧ c 4 i ≤ 9) ∧ (∀ q k, 0 ≤ q → q < 6 → K ≤ k → k < 5 → c 4 (q * 5 + k) = 0) ∧ (∀ i, 5 * (p + 1) ≤ i → i < 30 → c 4 i = 0) ∧ ∀ i, 0 ≤ i → i < 5 * (p + 1) → m 175 (120 + i) = c 4 i
theorem PL_D {p K : Int} {c0 m0 : Hp} (h : PL T n p K c0 m0 c m) : FD c0 c ∧ MD m0 m := by
  obtain ⟨h1, h2, h3, h4, h5, _⟩ := h
  exact ⟨fun a x _ z => h2 a x z, fun a x _ _ z => h3 a x z, h4, fun j _ => by rw [h3 173 (by omega) (by omega)], fun j _ => by rw [h3 174 (by omega) (by omega)], h5⟩
theorem PL_fr {p K : Int} {c0 m0 c' m' : Hp} (h : PL T n p K c0 m0 c m) (g : Gd T n c' m') (f1 : F2 c c') (f2 : M2 m m') : PL T n p K c0 m0 c' m' := by
  obtain ⟨h1, h2, h3, h4, h5, h6, h7, h8, h9⟩ := h
  refine ⟨g, fun a x y => by rw [f1 a x]; exact h2 a x y, fun a x y => by rw [f2.1 a x]; exact h3 a x y, fun j hj => by rw [f2.2 j hj]; exact h4 j hj, by rw [f2.1 175 (by omega)]; exact h5, by rw [f1 4 (by omega)]; exact h6, by rw [f1 4 (by omega)]; exact h7, by rw [f1 4 (by omega)]; exact h8, by rw [f1 4 (by omega), f2.1 175 (by omega)]; exact h9⟩
theorem s_pers (hT : TxT T n) {p K : Int} (hp : 0 ≤ p ∧ p < 6) (hK : 1 ≤ K ∧ K ≤ 5) {c0 m0 : Hp} (k1 : c0 3 1 = K) (k2 : m0 174 24 = K) {r35 : Int × Hp} (hr : r35.2 3 5 = p) : ∀ (f : Nat) (i : Int) (c m : Hp), PL T n p K c0 m0 c m → 0 ≤ i → i ≤ c 1 5 → n - c 1 5 + 2 ≤ f → ∃ o m', iter f (rd_readPerson_b2 3 r35) (i, c) = some o ∧ iter f (md_personLine_b2 p) m = some m' ∧ ((∃ c', o = .inl c' ∧ PL T n p K c0 m0 c' m' ∧ c 1 5 ≤ c' 1 5) ∨ (∃ c1 c', o = .inr (0, c') ∧ PL T n p K c0 m0 c1 m' ∧ c1 1 6 = 1 ∧ rd_fail c1 1 = some (0, c')) ∨ (∃ c', o = .inr (0, c') ∧ Bd c' m' ∧ FD c0 c' ∧ MD m0 m' ∧ m' 174 = m0 174)) := by
  have n1 : ¬ wr 1 = 0 := by decide
  have n0 : wr 0 = 0 := rfl
  have hn := hT.1
  intro f
  induction f with
  | zero =>
    intro i c m hP a b d
    have := (Gd_6 hP.1).2.2.2
    omega
  | succ f ih =>
    intro i c m hP a b d
    obtain ⟨s6, e6, p6, q5⟩ := Gd_6 hP.1
    have hG := hP.1
    have w6 := s_isW hT hG.1 hG.2.2.1 hG.2.2.2.1 (j := 6) (by omega) (w := 6688729) rfl
    have w7 := s_isW hT hG.1 hG.2.2.1 hG.2.2.2.1 (j := 7) (by omega) (w := 4285945) rfl
    have eC : rd_readPerson_b2 3 r35 (i, c) = if c 1 6 = 1 then Option.bind (rd_isWord c (6)) (fun r41 => if wr (r41) = 0 then Option.bind (rd_isWord c (7)) (fun r43 => if wr (r43) = 0 then Option.bind (rd_fail c (1)) (fun r45 => chk ((r45.1 : Int) = 0 ∨ (r45.1 : Int) = 1) (some (.inr (.inr ((r45.1, r45.2)))))) else Option.bind (rd_step c) (fun r47 => tlC p r41 i r47)) else Option.bind (rd_step c) (fun r55 => tlC p r41 i r55)) else some (.inr (.inl c)) := by
      simp only [rd_readPerson_b2, hr, hG.1.1]
      rw [w32 (show -1000000 ≤ i ∧ i ≤ 1000000 by omega), w32 (show -1000000 ≤ n ∧ n ≤ 1000000 by omega), if_pos (by omega), w32 (show -1000000 ≤ c 1 6 ∧ c 1 6 ≤ 1000000 by omega), wr_one]
      rfl
    have eM : md_personLine_b2 p m = Option.bind (md_is m (6688729)) (fun r9 => if wr (r9) = 0 then Option.bind (md_is m (4285945)) (fun r11 => if wr (r11) = 0 then some (.inr (m)) else Option.bind (md_takes m (6688729)) (fun r13 => Option.bind (if wr (r13.1) = 0 then Option.bind (md_asks r13.2 (4285945)) (fun r15 => some (r15)) else some (r13.2)) (fun s16 : Hp => tlM p r13.1 s16))) else Option.bind (md_takes m (6688729)) (fun r25 => Option.bind (if wr (r25.1) = 0 then Option.bind (md_asks r25.2 (4285945)) (fun r27 => some (r27)) else some (r25.2)) (fun s28 : Hp => tlM p r25.1 s28))) := by
      unfold md_personLine_b2
      rw [hG.2.2.2.1, if_pos n0]
      rfl
    -- what follows a word
    have go : ∀ (fl : Int) (c1 m1 : Hp), rd_readPerson_b2 3 r35 (i, c) = tlC p fl i c1 → md_personLine_b2 p m = tlM p fl m1 → PL T n p K c0 m0 c1 m1 → c 1 5 < c1 1 5 → ∃ o m', iter (f + 1) (rd_readPerson_b2 3 r35) (i, c) = some o ∧ iter (f + 1) (md_personLine_b2 p) m = some m' ∧ ((∃ c', o = .inl c' ∧ PL T n p K c0 m0 c' m' ∧ c 1 5 ≤ c' 1 5) ∨ (∃ c1 c', o = .inr (0, c') ∧ PL T n p K c0 m0 c1 m' ∧ c1 1 6 = 1 ∧ rd_fail c1 1 = some (0, c')) ∨ (∃ c', o = .inr (0, c') ∧ Bd c' m' ∧ FD c0 c' ∧ MD m0 m' ∧ m' 174 = m0 174)) := by
      intro fl c1 m1 x1 x2 hP1 x3
      have hP1' := hP1
      obtain ⟨h1, h2, h3, h4, h5, h6, h7, h8, h9⟩ := hP1'
      unfold iter
      rw [x1, x2]
      rcases s_tail hT h1 (fl := fl) (i := i) hK hp (by rw [h2 3 (by omega) (by omega)]; exact k1) (by rw [h3 174 (by omega) (by omega)]; exact k2) with ⟨c', m', k, v, y1, y2, g, y3, y4, y5, y6, y7, y8, y9, y10, y11, y12⟩ | ⟨c', m', y1, y2, bb, f1, f2⟩
      · rw [y1, y2]
        dsimp only
        have hP2 : PL T n p K c0 m0 c' m' := by
          refine ⟨g, fun a x y => by rw [y5 a x y]; exact h2 a x y, fun a x y => by rw [y8 a x y]; exact h3 a x y, fun j hj => by rw [y9 j hj]; exact h4 j hj, fun j hj => by rw [y10 j (by omega)]; exact h5 j hj, fun x u1 u2 => ?_, fun q kk u1 u2 u3 u4 => ?_, fun x u1 u2 => ?_, fun x u1 u2 => ?_⟩
          · by_cases z : x = p * 5 + k
            · rw [z, y7]; exact y4
            · rw [y6 x z]; exact h6 x u1 u2
          · rw [y6 _ (by omega)]; exact h7 q kk u1 u2 u3 u4
          · rw [y6 _ (by omega)]; exact h8 x u1 u2
          · by_cases z : x = p * 5 + k
            · rw [z, y7, y11]
            · rw [y6 x z, y10 _ (by omega)]; exact h9 x u1 u2
        obtain ⟨o, m'', z1, z2, z3⟩ := ih (i + 1) c' m' hP2 (by omega) (by omega) (by omega)
        refine ⟨o, m'', z1, z2, ?_⟩
        rcases z3 with ⟨c3, z4, z5, z6⟩ | z3 | z3
        · exact Or.inl ⟨c3, z4, z5, by omega⟩
        · exact Or.inr (Or.inl z3)
        · exact Or.inr (Or.inr z3)
      · rw [y1, y2]
        dsimp only
        obtain ⟨f', ef⟩ : ∃ f', f = f' + 1 := ⟨f - 1, by omega⟩
        rw [ef]
        have eB : md_personLine_b2 p m' = some (.inr m') := by
          unfold md_personLine_b2
          rw [if_neg (Bm_0 (Bd_m bb))]
        refine ⟨.inr (0, c'), m', rfl, by unfold iter; rw [eB], Or.inr (Or.inr ⟨c', rfl, bb, FD_tr (PL_D hP1).1 (F2_D f1), MD_tr (PL_D hP1).2 (M2_D f2), by rw [f2.1 174 (by omega)]; exact h3 174 (by omega) (by omega)⟩)⟩
    rcases w6 with ⟨x1, x2, x3⟩ | ⟨x1, x2⟩
    · obtain ⟨c1, m1, z1, z2, g, f1, f2, t⟩ := s_next hT hG
      have := p6 (by omega)
      refine go 1 c1 m1 ?_ ?_ (PL_fr hP g (FC_2 f1) (FM_2 f2)) (by omega)
      · rw [eC, if_pos x3, x1, bd_some, if_neg n1, z1, bd_some]
      · rw [eM, x2, bd_some, if_neg n1]
        unfold md_takes
        rw [x2, bd_some, if_neg n1, z2, bd_some, bd_some, if_neg n1, bd_some]
    · rcases w7 with ⟨x3, x4, x5⟩ | ⟨x3, x4⟩
      · obtain ⟨c1, m1, z1, z2, g, f1, f2, t⟩ := s_next hT hG
        have := p6 (by omega)
        refine go 0 c1 m1 ?_ ?_ (PL_fr hP g (FC_2 f1) (FM_2 f2)) (by omega)
        · rw [eC, if_pos x5, x1, bd_some, if_pos n0, x3, bd_some, if_neg n1, z1, bd_some]
        · rw [eM, x2, bd_some, if_pos n0, x4, bd_some, if_neg n1]
          unfold md_asks md_takes
          rw [x2, bd_some, if_pos n0, bd_some, if_pos n0]
          dsimp only
          rw [x4, bd_some, if_neg n1, z2, bd_some, bd_some, if_neg n1, bd_some, bd_some, bd_some]
      · have eM' : md_personLine_b2 p m = some (.inr m) := by rw [eM, x2, bd_some, if_pos n0, x4, bd_some, if_pos n0]
        unfold iter
        rw [eM', eC]
        by_cases z : c 1 6 = 1
        · obtain ⟨c', m', v1, v2, bb, f1, f2⟩ := s_fail hG (v := 1) (by omega)
          rw [if_pos z, x1, bd_some, if_pos n0, x3, bd_some, if_pos n0, v1, bd_some, chk_t (Or.inl rfl)]
          exact ⟨.inr (0, c'), m, rfl, rfl, Or.inr (Or.inl ⟨c, c', rfl, hP, z, v1⟩)⟩
        · rw [if_neg z]
          exact ⟨.inl c, m, rfl, rfl, Or.inl ⟨c, rfl, hP, Int.le_refl _⟩⟩
theorem m_clr5 (m : Hp) {p : Int} (hp : 0 ≤ p ∧ p < 6) : ∃ m', iter FU (md_personLine_b1 p) (0, m) = some m' ∧ (∀ a, a ≠ 175 → m' a = m a) ∧ (∀ x, (x < 120 + 5 * p ∨ 120 + 5 * p + 5 ≤ x) → m' 175 x = m 175 x) ∧ ∀ x, 120 + 5 * p ≤ x → x < 120 + 5 * p + 5 → m' 175 x = 0 := by
  refine lp (body := md_personLine_b1 p) (s0 := (0, m)) (fun i s => s.1 = i ∧ (∀ a, a ≠ 175 → s.2 a = m a) ∧ (∀ x, (x < 120 + 5 * p ∨ 120 + 5 * p + 5 ≤ x) → s.2 175 x = m 175 x) ∧ ∀ x, 120 + 5 * p ≤ x → x < 120 + 5 * p + i → s.2 175 x = 0) 5 (by omega) (by omega) ⟨rfl, fun _ _ => rfl, fun _ _ => rfl, fun x a b => by omega⟩ (fun i s a b hi => ?_) (fun s hi => ?_)
  · obtain ⟨k, g⟩ := s
    obtain ⟨q1, q2, q3, q4⟩ := hi
    dsimp only at q1 q2 q3 q4
    subst q1
    refine ⟨(k + 1, up g 175 (5 * (24 + p) + k) 0), ?_, rfl, fun a' h => by dsimp only; rw [up_nk h]; exact q2 a' h, fun x hx => by dsimp only; rw [up_ni (by omega)]; exact q3 x hx, fun x h1 h2 => ?_⟩
    · unfold md_personLine_b1
      dsimp only
      rw [w32 (show -1000000 ≤ k ∧ k ≤ 1000000 by omega), w32 (show -1000000 ≤ (5 : Int) ∧ (5 : Int) ≤ 1000000 by omega), if_pos b, w32 (show -1000000 ≤ 5 * (24 + p) + k ∧ 5 * (24 + p) + k ≤ 1000000 by omega), chk_t (by omega), lt_eq]
    · dsimp only
      by_cases z : x = 5 * (24 + p) + k
      · rw [z, up_eq]
      · rw [up_ni z]; exact q4 x h1 (by omega)
  · obtain ⟨k, g⟩ := s
    obtain ⟨q1, q2, q3, q4⟩ := hi
    dsimp only at q1 q2 q3 q4
    subst q1
    refine ⟨g, ?_, q2, q3, q4⟩
    unfold md_personLine_b1
    dsimp only
    rw [if_neg (Int.lt_irrefl _)]
theorem s_person (hT : TxT T n) (hG : Gd T n c m) (hD : Dr c m) (h6 : 1 ≤ c 3 6) : (∃ c' m', rd_readPerson c 3 = some (1, c') ∧ md_lineHere m = some m' ∧ Gd T n c' m' ∧ Dr (up c' 3 6 (c' 3 6 + 1)) (up m' 173 4 (m' 173 4 + 1)) ∧ FD c c' ∧ MD m m' ∧ c 1 5 < c' 1 5) ∨ (∃ c' m', rd_readPerson c 3 = some (0, c') ∧ md_lineHere m = some m' ∧ (Bd c' m' ∨ ∃ c1, Gd T n c1 m' ∧ c1 1 6 = 1 ∧ rd_fail c1 1 = some (0, c')) ∧ FD c c' ∧ MD m m') := by
  have n1 : ¬ wr 1 = 0 := by decide
  have n0 : wr 0 = 0 := rfl
  have hn := hT.1
  have hD' := hD
  obtain ⟨⟨d1, d2, d3, d4, d5, d6⟩, ⟨d7, d8⟩, ⟨da, db, dc, dd, de⟩, dT, dZ, dY, dM, dL⟩ := hD'
  obtain ⟨p, ep⟩ : ∃ p, p = c 3 5 := ⟨_, rfl⟩
  obtain ⟨K, eK⟩ : ∃ K, K = c 3 1 := ⟨_, rfl⟩
  have hK : 1 ≤ K ∧ K ≤ 5 := by rcases dL with q | q <;> omega
  have eL : c 3 6 = p + 1 := by rcases dL with q | q <;> omega
  have eh : md_hasRead m 4 = some p := by rw [m_hasR m (by omega), ep, d5]; rfl
  have w6 : wr 6 = 6 := w32 (by omega)
  rcases s_isW hT hG.1 hG.2.2.1 hG.2.2.2.1 (j := 5) (by omega) (w := 232608281) rfl with ⟨x1, x2, x3⟩ | ⟨x1, x2⟩
  · by_cases z : p = 6
    · right
      obtain ⟨c', m', v1, v2, bb, f1, f2⟩ := s_fail hG (v := 3) (by omega)
      refine ⟨c', m', ?_, ?_, Or.inl bb, F2_D f1, M2_D f2⟩
      · unfold rd_readPerson
        rw [x1, bd_some, if_neg n1, ← ep, w6, w32 (show -1000000 ≤ p ∧ p ≤ 1000000 by omega), if_pos (by omega), v1, bd_some, chk_t (Or.inl rfl)]
      · unfold md_lineHere
        rw [x2, bd_some, if_neg n1, eh, bd_some, w6, w32 (show -1000000 ≤ p ∧ p ≤ 1000000 by omega), if_pos z, v2, bd_some, bd_some, if_neg (Bm_0 (Bd_m bb))]
    · obtain ⟨c1, m1, z1, z2, g, f1, f2, t⟩ := s_next hT hG
      have t5 := (Gd_6 hG).2.2.1 (by omega)
      have etw : rd_takeWord c 5 = some (1, c1) := by
        unfold rd_takeWord
        rw [x1, bd_some, if_neg n1, z1, bd_some]
      have c35 : c1 3 5 = p := by rw [f1.1 3 (by omega), ep]
      have eC : rd_readPerson c 3 = Option.bind (iter FU (rd_readPerson_b2 3 (1, c1)) (0, up c1 3 5 (p + 1))) (fun o => match o with | .inl s63 => some ((1, s63)) | .inr x => some (x)) := by
        unfold rd_readPerson
        rw [x1, bd_some, if_neg n1, ← ep, w6, w32 (show -1000000 ≤ p ∧ p ≤ 1000000 by omega), if_neg (by omega), etw, bd_some, if_neg n1, lt_eq]
        dsimp only
        rw [c35]
        rfl
      obtain ⟨m2, y1, y2, y3, y4⟩ := m_clr5 m1 (p := p) (by omega)
      have e1h : md_hasRead m1 4 = some p := by rw [m_hasR m1 (by omega), f2.1 174 (by omega), ep, d5]; rfl
      obtain ⟨C0, eC0⟩ : ∃ C0, C0 = up c1 3 5 (p + 1) := ⟨_, rfl⟩
      have C04 : C0 4 = c 4 := by rw [eC0, up_nk (by omega), f1.1 4 (by omega)]
      have C02 : C0 1 = c1 1 := by rw [eC0, up_nk (by omega)]
      have C03 : ∀ x, x ≠ 5 → C0 3 x = c 3 x := fun x hx => by rw [eC0, up_ni hx, f1.1 3 (by omega)]
      have C035 : C0 3 5 = p + 1 := by rw [eC0, up_eq]
      have m21 : ∀ a, a ≠ 167 → a ≠ 175 → m2 a = m a := fun a h1 h2 => by rw [y2 a h2, f2.1 a h1]
      have hPL : PL T n p K C0 m2 C0 m2 := by
        refine ⟨Gd_fr g C02 (by rw [eC0, up_nk (by omega)]) (y2 167 (by omega)) (y2 172 (by omega)), fun _ _ _ => rfl, fun _ _ _ => rfl, fun _ _ => rfl, fun _ _ => rfl, by rw [C04]; exact dT, by rw [C04, eK]; exact dZ, fun i a b => by rw [C04]; exact dY i (by omega) b, fun i a b => ?_⟩
        rw [C04]
        by_cases zz : i < 5 * p
        · rw [y3 _ (by omega), f2.1 175 (by omega)]; exact dM i a (by omega)
        · rw [y4 _ (by omega) (by omega)]; exact (dY i (by omega) (by omega)).symm
      have g5 := (Gd_6 hPL.1).2.2.2
      have q1 : C0 3 1 = K := by rw [C03 1 (by omega), eK]
      have q2 : m2 174 24 = K := by rw [m21 174 (by omega) (by omega), ← d1, eK]
      obtain ⟨o, m3, u1, u2, u3⟩ := s_pers hT (p := p) (K := K) (by omega) hK (c0 := C0) (m0 := m2) q1 q2 (r35 := (1, c1)) c35 FU 0 C0 m2 hPL (by omega) (by omega) (by unfold FU; omega)
      have fd0 : FD c C0 := fun a h1 h2 h3 => by rw [eC0, up_nk h2, f1.1 a h1]
      have md0 : MD m m2 := ⟨fun a h1 h2 h3 h4 => m21 a h1 h4, fun j hj => by rw [y2 167 (by omega), f2.2 j (by omega)], fun j _ => by rw [m21 173 (by omega) (by omega)], fun j _ => by rw [m21 174 (by omega) (by omega)], fun j hj => by rw [y3 j (by omega), f2.1 175 (by omega)]⟩
      have m3D : MD m2 m3 ∧ m3 174 28 = p := by
        have m28 : m2 174 28 = p := by rw [m21 174 (by omega) (by omega), ep]; exact d5.symm
        rcases u3 with ⟨c', v1, v2, v3⟩ | ⟨c1', c', v1, v2, v3, v4⟩ | ⟨c', v1, v2, v3, v4, v5⟩
        · exact ⟨(PL_D v2).2, by rw [v2.2.2.1 174 (by omega) (by omega)]; exact m28⟩
        · exact ⟨(PL_D v2).2, by rw [v2.2.2.1 174 (by omega) (by omega)]; exact m28⟩
        · exact ⟨v4, by rw [v5]; exact m28⟩
      have eM : md_lineHere m = some (up m3 174 28 (p + 1)) := by
        unfold md_lineHere md_personLine
        rw [x2, bd_some, if_neg n1, eh, bd_some, w6, w32 (show -1000000 ≤ p ∧ p ≤ 1000000 by omega), if_neg z, bd_some, hG.2.2.2.1, if_pos n0, z2, bd_some, e1h, bd_some, y1, bd_some, u2, bd_some, m_hasR m3 (by omega), bd_some, show (24 : Int) + 4 = 28 from rfl, m3D.2, m_tlR m3 (by omega), bd_some, bd_some]
        rfl
      obtain ⟨m4, em4⟩ : ∃ m4, m4 = up m3 174 28 (p + 1) := ⟨_, rfl⟩
      have m4a : ∀ a, a ≠ 174 → m4 a = m3 a := fun a ha => by rw [em4, up_nk ha]
      have md4 : MD m m4 := MD_tr md0 (MD_tr m3D.1 (by rw [em4]; exact MD_174 m3 (by omega)))
      rw [eC, eM, ← em4, ← eC0, u1, bd_some]
      rcases u3 with ⟨c', v1, v2, v3⟩ | ⟨c1', c', v1, v2, v3, v4⟩ | ⟨c', v1, v2, v3, v4, v5⟩
      · left
        rw [v1]
        have v2' := v2
        obtain ⟨h1, h2, h3, h4, h5, h6', h7, h8, h9⟩ := v2'
        rw [C02] at v3
        refine ⟨c', m4, rfl, rfl, Gd_fr h1 rfl rfl (m4a 167 (by omega)) (m4a 172 (by omega)), ?_, FD_tr fd0 (PL_D v2).1, md4, by omega⟩
        have k3 : ∀ x, x ≠ 6 → up c' 3 6 (c' 3 6 + 1) 3 x = C0 3 x := fun x hx => by rw [up_ni hx, h2 3 (by omega) (by omega)]
        have k6 : c' 3 6 = p + 1 := by rw [h2 3 (by omega) (by omega), C03 6 (by omega)]; exact eL
        have k4 : up c' 3 6 (c' 3 6 + 1) 4 = c' 4 := up_nk (by omega)
        have l1 : up m4 173 4 (m4 173 4 + 1) 174 = m4 174 := up_nk (by omega)
        have l2 : up m4 173 4 (m4 173 4 + 1) 175 = m3 175 := by rw [up_nk (by omega), m4a 175 (by omega)]
        have l3 : m4 173 4 = p + 1 := by rw [m4a 173 (by omega), h3 173 (by omega) (by omega), m21 173 (by omega) (by omega), ← d6]; exact eL
        have l4 : ∀ x, x ≠ 28 → m4 174 x = m 174 x := fun x hx => by rw [em4, up_ni hx, h3 174 (by omega) (by omega), m21 174 (by omega) (by omega)]
        have l5 : m4 174 28 = p + 1 := by rw [em4, up_eq]
        unfold Dr
        rw [k3 1 (by omega), k3 2 (by omega), k3 3 (by omega), k3 4 (by omega), k3 5 (by omega), k3 8 (by omega), k4, l1, l2, up_eq, up_eq, k6, l3, C035, C03 1 (by omega), C03 2 (by omega), C03 3 (by omega), C03 4 (by omega), C03 8 (by omega), l4 24 (by omega), l4 25 (by omega), l4 26 (by omega), l4 27 (by omega), l4 29 (by omega), l5, ← eK]
        exact ⟨⟨by rw [eK]; exact d1, d2, d3, d4, rfl, rfl⟩, ⟨d7, d8⟩, ⟨by omega, db, dc, dd, by omega⟩, h6', h7, h8, h9, Or.inr ⟨by omega, by omega, rfl⟩⟩
      · right
        rw [v1]
        have := s_fail v2.1 (v := 1) (by omega)
        obtain ⟨cF, mF, r1, r2, rb, rf1, rf2⟩ := this
        have ec : cF = c' := by rw [v4] at r1; exact (Prod.mk.inj (Option.some.inj r1)).2.symm
        rw [ec] at rf1
        exact ⟨c', m4, rfl, rfl, Or.inr ⟨c1', Gd_fr v2.1 rfl rfl (m4a 167 (by omega)) (m4a 172 (by omega)), v3, v4⟩, FD_tr fd0 (FD_tr (PL_D v2).1 (F2_D rf1)), md4⟩
      · right
        rw [v1]
        exact ⟨c', m4, rfl, rfl, Or.inl (Bd_fr v2 rfl (m4a 167 (by omega))), FD_tr fd0 v3, md4⟩
  · right
    obtain ⟨c', m', v1, v2, bb, f1, f2⟩ := s_fail hG (v := 1) (by omega)
    refine ⟨c', m', ?_, ?_, Or.inl bb, F2_D f1, M2_D f2⟩
    · unfold rd_readPerson rd_takeWord
      rw [x1, bd_some, if_pos n0, bd_some, if_pos n0, v1, bd_some, chk_t (Or.inl rfl), bd_some, if_pos n0]
    · unfold md_lineHere
      rw [x2, bd_some, if_pos n0, v2, bd_some, bd_some, if_neg (Bm_0 (Bd_m bb))]
end
