/-! Layer 2: reading: the first line by both -/
def FD (c c' : Hp) : Prop := ∀ a, a ≠ 1 → a ≠ 3 → a ≠ 4 → c' a = c a
def MD (m m' : Hp) : Prop := (∀ a, a ≠ 167 → a ≠ 173 → a ≠ 174 → a ≠ 175 → m' a = m a) ∧ (∀ j, (j < 7 ∨ 13 < j) → m' 167 j = m 167 j) ∧ (∀ j, j ≠ 4 → m' 173 j = m 173 j) ∧ (∀ j, (j < 24 ∨ 29 < j) → m' 174 j = m 174 j) ∧ ∀ j, (j < 120 ∨ 149 < j) → m' 175 j = m 175 j
theorem FD_rfl (a : Hp) : FD a a := fun _ _ _ _ => rfl
theorem MD_rfl (a : Hp) : MD a a := ⟨fun _ _ _ _ _ => rfl, fun _ _ => rfl, fun _ _ => rfl, fun _ _ => rfl, fun _ _ => rfl⟩
theorem FD_tr {a b d : Hp} (h : FD a b) (k : FD b d) : FD a d := fun x h1 h2 h3 => (k x h1 h2 h3).trans (h x h1 h2 h3)
theorem MD_tr {a b d : Hp} (h : MD a b) (k : MD b d) : MD a d := ⟨fun x h1 h2 h3 h4 => (k.1 x h1 h2 h3 h4).trans (h.1 x h1 h2 h3 h4), fun j hj => (k.2.1 j hj).trans (h.2.1 j hj), fun j hj => (k.2.2.1 j hj).trans (h.2.2.1 j hj), fun j hj => (k.2.2.2.1 j hj).trans (h.2.2.2.1 j hj), fun j hj => (k.2.2.2.2 j hj).trans (h.2.2.2.2 j hj)⟩
theorem F2_D {a b : Hp} (h : F2 a b) : FD a b := fun x h1 _ _ => h x h1
theorem M2_D {a b : Hp} (h : M2 a b) : MD a b := ⟨fun x h1 _ _ _ => h.1 x h1, h.2, fun j _ => by rw [h.1 173 (by omega)], fun j _ => by rw [h.1 174 (by omega)], fun j _ => by rw [h.1 175 (by omega)]⟩
theorem FD_3 (a : Hp) (j v : Int) : FD a (up a 3 j v) := fun x _ h _ => up_nk h
theorem FD_4 (a : Hp) (j v : Int) : FD a (up a 4 j v) := fun x _ _ h => up_nk h
theorem MD_174 (a : Hp) {j v : Int} (hj : 24 ≤ j ∧ j ≤ 29) : MD a (up a 174 j v) := ⟨fun x _ _ h _ => up_nk h, fun i _ => by rw [up_nk (by omega)], fun i _ => by rw [up_nk (by omega)], fun i hi => up_ni (by omega), fun i _ => by rw [up_nk (by omega)]⟩
theorem MD_175 (a : Hp) {j v : Int} (hj : 120 ≤ j ∧ j ≤ 149) : MD a (up a 175 j v) := ⟨fun x _ _ _ h => up_nk h, fun i _ => by rw [up_nk (by omega)], fun i _ => by rw [up_nk (by omega)], fun i _ => by rw [up_nk (by omega)], fun i hi => up_ni (by omega)⟩
theorem MD_173 (a : Hp) {v : Int} : MD a (up a 173 4 v) := ⟨fun x _ h _ _ => up_nk h, fun i _ => by rw [up_nk (by omega)], fun i hi => up_ni hi, fun i _ => by rw [up_nk (by omega)], fun i _ => by rw [up_nk (by omega)]⟩
/-- the model goes on, bad -/
def Tail (K : Hp → Option Hp) : Prop := ∀ m, Bm m → ∃ m', K m = some m' ∧ MD m m' ∧ m' 167 = m 167
def stM (w lo hi i : Int) (K : Hp → Option Hp) (m : Hp) : Option Hp := Option.bind (md_number_ m w lo hi) (fun r => Option.bind (md_tells r.2 i r.1) (fun x => K x))
def stC (j : Nat) (lo hi f : Int) (K : Hp → Option (Int × Hp)) (c : Hp) : Option (Int × Hp) := Option.bind (rd_takeWord c j) (fun r => if wr (r.1) = 0 then some ((0, r.2)) else Option.bind (rd_takeNumber r.2 lo hi) (fun q => if wr (q.1) = 0 then some ((0, q.2)) else lt (up q.2 3 f (q.2 1 8)) (fun x => K x)))
theorem tail_0 : Tail (fun h => some h) := fun m _ => ⟨m, rfl, MD_rfl m, rfl⟩
theorem tail_s {K : Hp → Option Hp} (hK : Tail K) {w lo hi i : Int} (hi' : 0 ≤ i ∧ i < 6) : Tail (stM w lo hi i K) := by
  intro m hm
  have e : up m 174 (24 + i) lo 167 = m 167 := up_nk (by omega)
  obtain ⟨m', e1, e2, e3⟩ := hK (up m 174 (24 + i) lo) (by unfold Bm; rw [e]; exact hm)
  refine ⟨m', ?_, MD_tr (MD_174 m (by omega)) e2, by rw [e3, e]⟩
  unfold stM
  rw [b_num_ hm, bd_some]
  dsimp only
  rw [m_tlR m hi', bd_some]
  exact e1
section
variable {T : Int → Int} {n : Int} {c m : Hp}
theorem Gd_fr {c' m' : Hp} (h : Gd T n c m) (h1 : c' 1 = c 1) (h2 : c' 2 = c 2) (h3 : m' 167 = m 167) (h4 : m' 172 = m 172) : Gd T n c' m' := by
  unfold Gd TxC TxM Tk at h ⊢
  rw [h1, h2, h3, h4]
  exact h
theorem Bd_fr {c' m' : Hp} (h : Bd c m) (h2 : c' 1 = c 1) (h3 : m' 167 = m 167) : Bd c' m' := by
  unfold Bd at h ⊢
  rw [h2, h3]
  exact h
theorem s_stage (hT : TxT T n) (hG : Gd T n c m) {j : Nat} (hj : j < 8) {w : Int} (hw : wcd j = w) {lo hi f : Int} (hl : 0 ≤ lo ∧ lo ≤ 100) (hh : -1 ≤ hi ∧ hi ≤ 100) (hf : 1 ≤ f ∧ f ≤ 4) {i : Int} (hi' : i = f - 1) : (∃ c' m' v, (∀ K, stC j lo hi f K c = K c') ∧ (∀ K, stM w lo hi i K m = K m') ∧ (lo ≤ v ∧ v ≤ hi) ∧ Gd T n c' m' ∧ (∀ a, a ≠ 1 → a ≠ 3 → c' a = c a) ∧ (∀ x, x ≠ f → c' 3 x = c 3 x) ∧ c' 3 f = v ∧ (∀ a, a ≠ 167 → a ≠ 174 → m' a = m a) ∧ (∀ x, (x < 7 ∨ 13 < x) → m' 167 x = m 167 x) ∧ (∀ x, x ≠ 24 + i → m' 174 x = m 174 x) ∧ m' 174 (24 + i) = v ∧ c 1 5 < c' 1 5) ∨ (∃ c' m', (∀ K, stC j lo hi f K c = some (0, c')) ∧ (∀ K, stM w lo hi i K m = K m') ∧ Bd c' m' ∧ FD c c' ∧ MD m m') := by
  have n1 : ¬ wr 1 = 0 := by decide
  have n0 : wr 0 = 0 := rfl
  rcases s_wn hT hG hj hw hl hh with ⟨c1, c2, m2, v, e1, e2, e3, e4, e5, g, f1, f2, t⟩ | ⟨c', m', e1, e2, b, f1, f2⟩
  · left
    refine ⟨up c2 3 f v, up m2 174 (24 + i) v, v, fun K => ?_, fun K => ?_, e5, Gd_fr g (up_nk (by omega)) (up_nk (by omega)) (up_nk (by omega)) (up_nk (by omega)), fun a h1 h2 => by rw [up_nk h2]; exact f1 a h1, fun x hx => by rw [up_ni hx, f1 3 (by omega)], up_eq .., fun a h1 h2 => by rw [up_nk h2]; exact f2.1 a h1, fun x hx => by rw [up_nk (by omega)]; exact f2.2 x hx, fun x hx => by rw [up_ni hx, f2.1 174 (by omega)], up_eq .., by rw [up_nk (by omega)]; exact t⟩
    · unfold stC
      rw [e1, bd_some, if_neg n1, e2, bd_some, if_neg n1, lt_eq]
      dsimp only
      rw [e4]
    · unfold stM
      rw [e3, bd_some]
      dsimp only
      rw [m_tlR m2 (by omega), bd_some]
  · right
    refine ⟨c', up m' 174 (24 + i) lo, fun K => ?_, fun K => ?_, Bd_fr b rfl (up_nk (by omega)), F2_D f1, MD_tr (M2_D f2) (MD_174 _ (by omega))⟩
    · unfold stC
      rcases e1 with q | ⟨c1, q1, q2⟩
      · rw [q, bd_some, if_pos n0]
      · rw [q1, bd_some, if_neg n1, q2, bd_some, if_pos n0]
    · unfold stM
      rw [e2, bd_some]
      dsimp only
      rw [m_tlR m' (by omega), bd_some]
def hdM (m : Hp) : Option Hp := Option.bind (md_asks m (3369766)) (fun r9 => stM 6033331 1 5 0 (stM 8798 0 3 1 (stM 3211399 0 3 2 (stM 298288 0 10 3 (fun h => some h)))) r9)
theorem hdC_eq (c : Hp) : rd_readHead c 3 = Option.bind (rd_takeWord c 0) (fun r1 => if wr (r1.1) = 0 then some ((0, r1.2)) else stC 1 1 5 1 (stC 2 0 3 2 (stC 3 0 3 3 (stC 4 0 10 4 (fun h => some (1, h))))) r1.2) := rfl
/-- the draft, by both -/
def Dr (c m : Hp) : Prop := (c 3 1 = m 174 24 ∧ c 3 2 = m 174 25 ∧ c 3 3 = m 174 26 ∧ c 3 4 = m 174 27 ∧ c 3 5 = m 174 28 ∧ c 3 6 = m 173 4) ∧ (c 3 8 = 0 ∧ m 174 29 = 0) ∧ ((0 ≤ c 3 1 ∧ c 3 1 ≤ 5) ∧ (0 ≤ c 3 2 ∧ c 3 2 ≤ 3) ∧ (0 ≤ c 3 3 ∧ c 3 3 ≤ 3) ∧ (0 ≤ c 3 4 ∧ c 3 4 ≤ 10) ∧ (0 ≤ c 3 5 ∧ c 3 5 ≤ 6)) ∧ (∀ i, 0 ≤ i → i < 30 → -9 ≤ c 4 i ∧ c 4 i ≤ 9) ∧ (∀ p k, 0 ≤ p → p < 6 → c 3 1 ≤ k → k < 5 → c 4 (p * 5 + k) = 0) ∧ (∀ i, 5 * c 3 5 ≤ i → i < 30 → c 4 i = 0) ∧ (∀ i, 0 ≤ i → i < 5 * c 3 5 → m 175 (120 + i) = c 4 i) ∧ (c 3 6 = 0 ∧ c 3 5 = 0 ∧ c 3 1 = 0 ∨ 1 ≤ c 3 6 ∧ 1 ≤ c 3 1 ∧ c 3 6 = c 3 5 + 1)
theorem s_head (hT : TxT T n) (hG : Gd T n c m) (hD : Dr c m) (h6 : c 3 6 = 0) : (∃ c' m', rd_readHead c 3 = some (1, c') ∧ hdM m = some m' ∧ Gd T n c' m' ∧ Dr (up c' 3 6 1) (up m' 173 4 1) ∧ c' 3 6 = 0 ∧ m' 173 4 = 0 ∧ FD c c' ∧ MD m m' ∧ c 1 5 < c' 1 5) ∨ (∃ c' m', rd_readHead c 3 = some (0, c') ∧ hdM m = some m' ∧ Bd c' m' ∧ FD c c' ∧ MD m m') := by
  have n1 : ¬ wr 1 = 0 := by decide
  have n0 : wr 0 = 0 := rfl
  have t4 : Tail (stM 298288 0 10 3 (fun h => some h)) := tail_s tail_0 (by omega)
  have t3 : Tail (stM 3211399 0 3 2 (stM 298288 0 10 3 (fun h => some h))) := tail_s t4 (by omega)
  have t2 : Tail (stM 8798 0 3 1 (stM 3211399 0 3 2 (stM 298288 0 10 3 (fun h => some h)))) := tail_s t3 (by omega)
  have t1 : Tail (stM 6033331 1 5 0 (stM 8798 0 3 1 (stM 3211399 0 3 2 (stM 298288 0 10 3 (fun h => some h))))) := tail_s t2 (by omega)
  rw [hdC_eq]
  unfold hdM
  rcases s_takeW hT hG (j := 0) (by omega) (w := 3369766) rfl with ⟨c1, m1, e1, e2, g1, f1, f2, u1⟩ | ⟨c', m', e1, e2, b, f1, f2⟩
  · rw [e1, e2, bd_some, bd_some, if_neg n1]
    dsimp only
    rcases s_stage hT g1 (j := 1) (by omega) (w := 6033331) rfl (lo := 1) (hi := 5) (f := 1) (i := 0) (by omega) (by omega) (by omega) (by omega) with ⟨c2, m2, v1, p1, p2, p3, g2, p4, p5, p6, p7, p8, p9, p10, u2⟩ | ⟨c', m', p1, p2, b, f3, f4⟩
    · rw [p1, p2]
      rcases s_stage hT g2 (j := 2) (by omega) (w := 8798) rfl (lo := 0) (hi := 3) (f := 2) (i := 1) (by omega) (by omega) (by omega) (by omega) with ⟨c3, m3, v2, q1, q2, q3, g3, q4, q5, q6, q7, q8, q9, q10, u3⟩ | ⟨c', m', q1, q2, b, f3, f4⟩
      · rw [q1, q2]
        rcases s_stage hT g3 (j := 3) (by omega) (w := 3211399) rfl (lo := 0) (hi := 3) (f := 3) (i := 2) (by omega) (by omega) (by omega) (by omega) with ⟨c4, m4, v3, r1, r2, r3, g4, r4, r5, r6, r7, r8, r9, r10, u4⟩ | ⟨c', m', r1, r2, b, f3, f4⟩
        · rw [r1, r2]
          rcases s_stage hT g4 (j := 4) (by omega) (w := 298288) rfl (lo := 0) (hi := 10) (f := 4) (i := 3) (by omega) (by omega) (by omega) (by omega) with ⟨c5, m5, v4, s1, s2, s3, g5, s4, s5, s6, s7, s8, s9, s10, u5⟩ | ⟨c', m', s1, s2, b, f3, f4⟩
          · left
            rw [s1, s2]
            obtain ⟨⟨d1, d2, d3, d4, d5, d6⟩, ⟨d7, d8⟩, ⟨da, db, dc, dd, de⟩, dT, dZ, dY, dM, dL⟩ := hD
            have x3 : ∀ x, (x < 1 ∨ 4 < x) → c5 3 x = c 3 x := fun x hx => by rw [s5 x (by omega), r5 x (by omega), q5 x (by omega), p5 x (by omega), f1 3 (by omega)]
            have x4 : c5 4 = c 4 := by rw [s4 4 (by omega) (by omega), r4 4 (by omega) (by omega), q4 4 (by omega) (by omega), p4 4 (by omega) (by omega), f1 4 (by omega)]
            have y3 : ∀ x, (x < 24 ∨ 27 < x) → m5 174 x = m 174 x := fun x hx => by rw [s9 x (by omega), r9 x (by omega), q9 x (by omega), p9 x (by omega), f2.1 174 (by omega)]
            have y4 : ∀ a, a ≠ 167 → a ≠ 174 → m5 a = m a := fun a h1 h2 => by rw [s7 a h1 h2, r7 a h1 h2, q7 a h1 h2, p7 a h1 h2, f2.1 a h1]
            have y5 : ∀ j, (j < 7 ∨ 13 < j) → m5 167 j = m 167 j := fun j hj => by rw [s8 j hj, r8 j hj, q8 j hj, p8 j hj, f2.2 j hj]
            have w1 : c5 3 1 = v1 := by rw [s5 1 (by omega), r5 1 (by omega), q5 1 (by omega)]; exact p6
            have w2 : c5 3 2 = v2 := by rw [s5 2 (by omega), r5 2 (by omega)]; exact q6
            have w3 : c5 3 3 = v3 := by rw [s5 3 (by omega)]; exact r6
            have z1 : m5 174 24 = v1 := by rw [s9 24 (by omega), r9 24 (by omega), q9 24 (by omega)]; exact p10
            have z2 : m5 174 25 = v2 := by rw [s9 25 (by omega), r9 25 (by omega)]; exact q10
            have z3 : m5 174 26 = v3 := by rw [s9 26 (by omega)]; exact r10
            have z4 : m5 174 27 = v4 := s10
            have c0 : c 3 5 = 0 := by rcases dL with q | q <;> omega
            have cz : ∀ i, 0 ≤ i → i < 30 → c 4 i = 0 := fun i a b => dY i (by omega) b
            refine ⟨c5, m5, rfl, rfl, g5, ?_, by rw [x3 6 (by omega)]; exact h6, by rw [y4 173 (by omega) (by omega), ← d6]; exact h6, fun a h1 h2 h3 => by rw [s4 a h1 h2, r4 a h1 h2, q4 a h1 h2, p4 a h1 h2, f1 a h1], ⟨fun a h1 h2 h3 h4 => y4 a h1 h3, y5, fun j _ => by rw [y4 173 (by omega) (by omega)], fun j hj => y3 j (by omega), fun j _ => by rw [y4 175 (by omega) (by omega)]⟩, by omega⟩
            have k1 : ∀ x, x ≠ 6 → up c5 3 6 1 3 x = c5 3 x := fun x hx => up_ni hx
            have k4 : up c5 3 6 1 4 = c5 4 := up_nk (by omega)
            have l1 : up m5 173 4 1 174 = m5 174 := up_nk (by omega)
            have l2 : up m5 173 4 1 175 = m5 175 := up_nk (by omega)
            unfold Dr
            rw [k1 1 (by omega), k1 2 (by omega), k1 3 (by omega), k1 4 (by omega), k1 5 (by omega), k1 8 (by omega), k4, l1, l2, up_eq, up_eq, w1, w2, w3, s6, z1, z2, z3, z4, x3 5 (by omega), x3 8 (by omega), y3 28 (by omega), y3 29 (by omega), x4]
            refine ⟨⟨rfl, rfl, rfl, rfl, d5, rfl⟩, ⟨d7, d8⟩, ⟨by omega, by omega, by omega, by omega, de⟩, dT, fun p k a1 a2 a3 a4 => cz _ (by omega) (by omega), dY, fun i a1 a2 => by omega, Or.inr ⟨by omega, by omega, by omega⟩⟩
          · right
            rw [s1, s2]
            exact ⟨c', m', rfl, rfl, b, FD_tr (fun a h1 h2 h3 => by rw [r4 a h1 h2, q4 a h1 h2, p4 a h1 h2, f1 a h1]) f3, MD_tr ⟨fun a h1 h2 h3 h4 => by rw [r7 a h1 h3, q7 a h1 h3, p7 a h1 h3, f2.1 a h1], fun j hj => by rw [r8 j hj, q8 j hj, p8 j hj, f2.2 j hj], fun j _ => by rw [r7 173 (by omega) (by omega), q7 173 (by omega) (by omega), p7 173 (by omega) (by omega), f2.1 173 (by omega)], fun j hj => by rw [r9 j (by omega), q9 j (by omega), p9 j (by omega), f2.1 174 (by omega)], fun j _ => by rw [r7 175 (by omega) (by omega), q7 175 (by omega) (by omega), p7 175 (by omega) (by omega), f2.1 175 (by omega)]⟩ f4⟩
        · right
          rw [r1, r2]
          obtain ⟨m'', k1, k2, k3⟩ := t4 m' (Bd_m b)
          rw [k1]
          exact ⟨c', m'', rfl, rfl, Bd_fr b rfl k3, FD_tr (fun a h1 h2 h3 => by rw [q4 a h1 h2, p4 a h1 h2, f1 a h1]) f3, MD_tr (MD_tr ⟨fun a h1 h2 h3 h4 => by rw [q7 a h1 h3, p7 a h1 h3, f2.1 a h1], fun j hj => by rw [q8 j hj, p8 j hj, f2.2 j hj], fun j _ => by rw [q7 173 (by omega) (by omega), p7 173 (by omega) (by omega), f2.1 173 (by omega)], fun j hj => by rw [q9 j (by omega), p9 j (by omega), f2.1 174 (by omega)], fun j _ => by rw [q7 175 (by omega) (by omega), p7 175 (by omega) (by omega), f2.1 175 (by omega)]⟩ f4) k2⟩
      · right
        rw [q1, q2]
        obtain ⟨m'', k1, k2, k3⟩ := t3 m' (Bd_m b)
        rw [k1]
        exact ⟨c', m'', rfl, rfl, Bd_fr b rfl k3, FD_tr (fun a h1 h2 h3 => by rw [p4 a h1 h2, f1 a h1]) f3, MD_tr (MD_tr ⟨fun a h1 h2 h3 h4 => by rw [p7 a h1 h3, f2.1 a h1], fun j hj => by rw [p8 j hj, f2.2 j hj], fun j _ => by rw [p7 173 (by omega) (by omega), f2.1 173 (by omega)], fun j hj => by rw [p9 j (by omega), f2.1 174 (by omega)], fun j _ => by rw [p7 175 (by omega) (by omega), f2.1 175 (by omega)]⟩ f4) k2⟩
    · right
      rw [p1, p2]
      obtain ⟨m'', k1, k2, k3⟩ := t2 m' (Bd_m b)
      rw [k1]
      exact ⟨c', m'', rfl, rfl, Bd_fr b rfl k3, FD_tr (F2_D f1) f3, MD_tr (MD_tr (M2_D f2) f4) k2⟩
  · right
    rw [e1, e2, bd_some, bd_some, if_pos n0]
    obtain ⟨m'', k1, k2, k3⟩ := t1 m' (Bd_m b)
    rw [k1]
    exact ⟨c', m'', rfl, rfl, Bd_fr b rfl k3, F2_D f1, MD_tr (M2_D f2) k2⟩
end
