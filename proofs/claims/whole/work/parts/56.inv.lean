/-! Layer 2: what holds between two calls -/
/-- the worth and bareness of one for whom somebody decides, by both -/
def wtS (S : Sn) (p who : Int) : Int := taS S p (guS S p who) - stS S p who (guS S p who)
def baS (S : Sn) (p who : Int) : Int := if guS S p who = -1 then 1 else 0
/-- all rows that go on from one -/
def pm (P : Nat) : Nat → List Int → List (List Int)
  | 0, pre => [pre]
  | k + 1, pre => (List.range P).flatMap (fun (p : Nat) => if (p : Int) ∈ pre then [] else pm P k (pre ++ [(p : Int)]))
def rwL (l : List Int) : Int → Int := fun x => l.getD x.toNat 0
def wsR (S : Sn) (R : Int → Int) (n : Int) : Int := sm n (fun x => wtS S (R x) (dcR R n (sL S) x))
def bsR (S : Sn) (R : Int → Int) (n : Int) : Int := sm n (fun x => baS S (R x) (dcR R n (sL S) x))
abbrev Od : Type := Int × Int × Int × Int × (Int → Int)
def od1 (S : Sn) (z : Od) (l : List Int) : Od :=
  let n := wsR S (rwL l) (sP S)
  let b := bsR S (rwL l) (sP S)
  let best := if z.1 < n then n else z.1
  let w := if z.1 < n then 0 else z.2.1
  (best, (if n = best then w + 1 else w), (if b < z.2.2.1 then b else z.2.2.1), (if b = 0 then z.2.2.2.1 + 1 else z.2.2.2.1), (if z.1 < n then rwL l else z.2.2.2.2))
def odS (S : Sn) : Od := (pm (sP S).toNat (sP S).toNat []).foldl (od1 S) (-100000, 0, 100000, 0, fun _ => 0)
def OT (h : Hp) (S : Sn) : Prop := h 27 8 = sP S ∧ h 27 9 = sL S ∧ ∀ p who, 0 ≤ p → p < sP S → -1 ≤ who → who < sP S → h 29 (p * 7 + who + 1) = wtS S p who ∧ h 30 (p * 7 + who + 1) = baS S p who
def OA (h : Hp) (S : Sn) : Prop := OT h S ∧ h 27 0 = (odS S).1 ∧ h 27 1 = (odS S).2.1 ∧ h 27 2 = (odS S).2.2.1 ∧ h 27 3 = (odS S).2.2.2.1 ∧ ∀ x, 0 ≤ x → x < sP S → h 28 x = (odS S).2.2.2.2 x
theorem OA_fr {h h' : Hp} {S : Sn} (hf : ∀ a, 27 ≤ a → a ≤ 31 → h' a = h a) (hO : OA h S) : OA h' S := by
  unfold OA OT
  rw [hf 27 (by omega) (by omega), hf 28 (by omega) (by omega), hf 29 (by omega) (by omega), hf 30 (by omega) (by omega)]
  exact hO
def LR (t : Hp) (o : Nat) (b : Int) : Prop := t 173 b = t o 6 ∧ t 174 (6 * b) = t o 1 ∧ t 174 (6 * b + 1) = t o 2 ∧ t 174 (6 * b + 2) = t o 3 ∧ t 174 (6 * b + 3) = t o 4 ∧ t 174 (6 * b + 4) = t o 5 ∧ t 174 (6 * b + 5) = t o 8 ∧ (∀ i, 0 ≤ i → i < 5 * t o 5 → t 175 (30 * b + i) = t (o + 1) i) ∧ (∀ i, 0 ≤ i → i < t o 8 → (t (o + 2) i = 0 → t 176 (160 * b + 4 * i) = 0) ∧ (t (o + 2) i = 1 → t 176 (160 * b + 4 * i) = 2) ∧ (t (o + 2) i = 2 → t 176 (160 * b + 4 * i) = 1) ∧ t 176 (160 * b + 4 * i + 1) = t (o + 3) i ∧ t 176 (160 * b + 4 * i + 2) = t (o + 4) i ∧ t 176 (160 * b + 4 * i + 3) = t (o + 5) i)
theorem LR_L0 {t : Hp} : LR t 9 0 ↔ L0 t := by
  unfold LR L0
  simp only [Int.mul_zero, Int.zero_add]
def LOkO (t : Hp) (o : Nat) : Prop := LOk (t o) (t (o + 1)) (t (o + 2)) (t (o + 3)) (t (o + 4)) (t (o + 5))
def SlR (h : Hp) (i : Nat) : Prop := (h (55 + 2 * i) 0 = 0 ∧ h 168 i = -1) ∨ (h (55 + 2 * i) 0 = 1 ∧ h 168 i = h (55 + 2 * i) 1 ∧ (0 ≤ h (55 + 2 * i) 1 ∧ h (55 + 2 * i) 1 ≤ 3) ∧ h 169 i = h (55 + 2 * i) 2 ∧ (0 ≤ h (55 + 2 * i) 2 ∧ h (55 + 2 * i) 2 ≤ 60) ∧ ∀ j, 0 ≤ j → j < h (55 + 2 * i) 2 → h (55 + 2 * i + 1) j = h 170 (60 * i + j) ∧ wl (h (55 + 2 * i + 1) j) = h (55 + 2 * i + 1) j)
def TaR (h : Hp) : Prop := h 1 2 = h 167 6 ∧ (0 ≤ h 1 2 ∧ h 1 2 ≤ 800) ∧ ∀ j, 0 ≤ j → j < h 1 2 → h 2 j = h 172 j ∧ -128 ≤ h 2 j ∧ h 2 j ≤ 127
def FaR (h : Hp) : Prop := h 1 0 = h 167 14 ∧ h 1 1 = h 167 15
def ImR (h : Hp) (k : Nat) : Prop := LR h (37 + 6 * k) (1 + (k : Int)) ∧ LOkO h (37 + 6 * k) ∧ h 16 k = h 177 k ∧ (h 16 k = 0 ∨ h 16 k = 1)
def Bas (h : Hp) : Prop := TaR h ∧ FaR h ∧ L0 h ∧ LOk9 h ∧ (∀ k : Nat, k < 3 → ImR h k) ∧ ∀ i : Nat, i < 4 → SlR h i
def INV (h : Hp) : Prop := Bas h ∧ (h 0 11 = 0 ∨ h 0 11 = 1) ∧ (h 0 12 = 0 ∨ h 0 12 = 1) ∧ (h 0 11 = 0 → ∀ s : Nat, s < 13 → CA h (63 + 8 * s) (Sea h s)) ∧ (h 0 12 = 0 → OA h (Sea h 0))
/-! what Bas doesn't look at -/
def bsc (a : Nat) : Prop := a = 0 ∨ (3 ≤ a ∧ a ≤ 8) ∨ (19 ≤ a ∧ a ≤ 35) ∨ (63 ≤ a ∧ a ≤ 167) ∨ a = 171 ∨ (178 ≤ a ∧ a ≤ 185)
theorem Bas_fr {h h' : Hp} (hB : Bas h) (hf : ∀ a, ¬ bsc a → h' a = h a) (h4 : h' 167 6 = h 167 6) (h5 : h' 167 14 = h 167 14) (h6 : h' 167 15 = h 167 15) : Bas h' := by
  unfold bsc at hf
  obtain ⟨b1, b2, b3, b4, b5, b6⟩ := hB
  refine ⟨?_, ?_, L0_fr b3 (fun a ha => hf a (by omega)), L9_fr b4 (fun a ha => hf a (by omega)), ?_, ?_⟩
  · unfold TaR
    rw [h4, hf 1 (by omega), hf 2 (by omega), hf 172 (by omega)]; exact b1
  · unfold FaR
    rw [hf 1 (by omega), h5, h6]; exact b2
  · intro k hk
    have := b5 k hk
    unfold ImR LR LOkO at this ⊢
    rw [hf 173 (by omega), hf 174 (by omega), hf 175 (by omega), hf 176 (by omega), hf 16 (by omega), hf 177 (by omega), hf (37 + 6 * k) (by omega), hf (37 + 6 * k + 1) (by omega), hf (37 + 6 * k + 2) (by omega), hf (37 + 6 * k + 3) (by omega), hf (37 + 6 * k + 4) (by omega), hf (37 + 6 * k + 5) (by omega)]
    exact this
  · intro i hi
    have := b6 i hi
    unfold SlR at this ⊢
    rw [hf 168 (by omega), hf 169 (by omega), hf 170 (by omega), hf (55 + 2 * i) (by omega), hf (55 + 2 * i + 1) (by omega)]
    exact this
/-- scratch of the class and of the model -/
def scr (a : Nat) : Prop := (19 ≤ a ∧ a ≤ 26) ∨ (32 ≤ a ∧ a ≤ 35) ∨ a = 167 ∨ a = 171 ∨ (178 ≤ a ∧ a ≤ 185)
def FX (h h' : Hp) : Prop := (∀ a, ¬ scr a → h' a = h a) ∧ h' 167 6 = h 167 6 ∧ h' 167 14 = h 167 14 ∧ h' 167 15 = h 167 15
theorem FX_rfl (h : Hp) : FX h h := ⟨fun _ _ => rfl, rfl, rfl, rfl⟩
theorem FX_trans {t u v : Hp} (a : FX t u) (b : FX u v) : FX t v := ⟨fun k h1 => (b.1 k h1).trans (a.1 k h1), b.2.1.trans a.2.1, b.2.2.1.trans a.2.2.1, b.2.2.2.trans a.2.2.2⟩
theorem FX_Fr {t u : Hp} (a : Fr t u) : FX t u := ⟨fun k h1 => by
  unfold scr at h1
  exact a.1 k (by omega) (by omega), a.2 6 (by omega), a.2 14 (by omega), a.2 15 (by omega)⟩
theorem FX_167 (t : Hp) {j v : Int} (h1 : j ≠ 6) (h2 : j ≠ 14) (h3 : j ≠ 15) : FX t (up t 167 j v) := ⟨fun a ha => by
  unfold scr at ha
  exact up_nk (by omega), up_ni (fun e => h1 e.symm), up_ni (fun e => h2 e.symm), up_ni (fun e => h3 e.symm)⟩
theorem INV_fx {h h' : Hp} (hI : INV h) (hf : FX h h') : INV h' := by
  obtain ⟨hf, f6, f14, f15⟩ := hf
  unfold scr at hf
  obtain ⟨i1, i2, i3, i4, i5⟩ := hI
  have e0 : h' 0 = h 0 := hf 0 (by omega)
  have eS : ∀ s, Sea h' s = Sea h s := Sea_fr (fun a ha => hf a (by omega))
  refine ⟨Bas_fr i1 (fun a ha => hf a (by unfold bsc at ha; omega)) f6 f14 f15, by rw [e0]; exact i2, by rw [e0]; exact i3, ?_, ?_⟩
  · intro z s hs
    rw [eS]
    exact CA_fr (i4 (by rw [← e0]; exact z) s hs) (fun a _ _ => hf a (by omega))
  · intro z
    rw [eS]
    exact OA_fr (fun a _ _ => hf a (by omega)) (i5 (by rw [← e0]; exact z))
theorem INV_h0 : INV h0 := by
  have z : ∀ k i, k ≠ 0 → k ≠ 1 → k ≠ 167 → k ≠ 168 → h0 k i = 0 := by
    intro k i a b c d
    unfold h0
    simp only [a, b, c, d, false_and, if_false]
  have lo : ∀ o : Nat, o ≠ 0 → o ≠ 1 → o ≠ 167 → o ≠ 168 → o + 1 ≠ 1 → o + 1 ≠ 167 → o + 1 ≠ 168 → LOkO h0 o := by
    intro o q1 q2 q3 q4 q5 q6 q7
    have w1 : ∀ i, h0 o i = 0 := fun i => z o i q1 q2 q3 q4
    have w2 : ∀ i, h0 (o + 1) i = 0 := fun i => z (o + 1) i (by omega) q5 q6 q7
    unfold LOkO LOk ActOk
    simp only [w1, w2]
    refine ⟨Or.inl trivial, by omega, by omega, by omega, by omega, by omega, by omega, by omega, fun _ _ _ => by omega, fun _ _ _ _ _ _ => trivial, fun i a b => by omega, fun _ => ⟨trivial, trivial, trivial, trivial⟩, fun q => by omega⟩
  have lr : ∀ (o : Nat) (b : Int), o ≠ 0 → o ≠ 1 → o ≠ 167 → o ≠ 168 → LR h0 o b := by
    intro o b q1 q2 q3 q4
    have w1 : ∀ i, h0 o i = 0 := fun i => z o i q1 q2 q3 q4
    have y3 : ∀ i, h0 173 i = 0 := fun i => z _ i (by omega) (by omega) (by omega) (by omega)
    have y4 : ∀ i, h0 174 i = 0 := fun i => z _ i (by omega) (by omega) (by omega) (by omega)
    unfold LR
    simp only [w1, y3, y4]
    refine ⟨trivial, trivial, trivial, trivial, trivial, trivial, trivial, fun i a b => by omega, fun i a b => by omega⟩
  refine ⟨⟨?_, ?_, LR_L0.mp (lr 9 0 (by omega) (by omega) (by omega) (by omega)), lo 9 (by omega) (by omega) (by omega) (by omega) (by omega) (by omega) (by omega), ?_, ?_⟩, Or.inr rfl, Or.inr rfl, fun q => absurd q (by decide), fun q => absurd q (by decide)⟩
  · refine ⟨rfl, by decide, ?_⟩
    intro j a b
    have : h0 1 2 = 0 := rfl
    omega
  · exact ⟨rfl, rfl⟩
  · intro k hk
    refine ⟨lr _ _ (by omega) (by omega) (by omega) (by omega), lo _ (by omega) (by omega) (by omega) (by omega) (by omega) (by omega) (by omega), ?_, Or.inl ?_⟩
    · rw [z 16 _ (by omega) (by omega) (by omega) (by omega), z 177 _ (by omega) (by omega) (by omega) (by omega)]
    · exact z 16 _ (by omega) (by omega) (by omega) (by omega)
  · intro i hi
    refine Or.inl ⟨z _ _ (by omega) (by omega) (by omega) (by omega), ?_⟩
    unfold h0
    simp (disch := omega) only [if_neg, if_pos]
    have : (0 : Int) ≤ (i : Int) ∧ (i : Int) < 4 := by omega
    simp [this]
/-! the seasons are at hand -/
def Fil (h F : Hp) : Prop := INV F ∧ F 0 11 = 0 ∧ (∀ s, 0 ≤ s → s < 13 → sf_seasonAt h s = some (63 + 8 * s.toNat, F) ∧ sf_seasonAt F s = some (63 + 8 * s.toNat, F)) ∧ (∀ s : Nat, s < 13 → CA F (63 + 8 * s) (Sea h s)) ∧ (∀ a, a ≠ 0 → (a < 63 ∨ 166 < a) → F a = h a) ∧ ∀ j, j ≠ 11 → F 0 j = h 0 j
theorem s_at {h : Hp} (hI : INV h) : ∃ F, Fil h F := by
  have hI' := hI
  obtain ⟨i1, i2, i3, i4, i5⟩ := hI'
  rcases i2 with z | z
  · have e : ∀ s, 0 ≤ s → s < 13 → sf_seasonAt h s = some (63 + 8 * s.toNat, h) := by
      intro s a b
      unfold sf_seasonAt
      simp (disch := omega) only [z, wr_id, if_true, bd_some, chk_t]
    exact ⟨h, hI, z, fun s a b => ⟨e s a b, e s a b⟩, i4 z, fun _ _ _ => rfl, fun _ _ => rfl⟩
  · obtain ⟨g, e, r, f⟩ := c_seasons (h := h) i1.2.2.2.1
    have f9 : ∀ a, (9 ≤ a ∧ a ≤ 14) → up g 0 11 0 a = h a := fun a ha => by rw [up_nk (by omega), f a (by omega)]
    have fa : ∀ a, a ≠ 0 → (a < 63 ∨ 166 < a) → up g 0 11 0 a = h a := fun a h1 h2 => by rw [up_nk h1, f a h2]
    have fj : ∀ j, j ≠ 11 → up g 0 11 0 0 j = h 0 j := fun j hj => by rw [up_ni hj, f 0 (by omega)]
    have ca : ∀ s : Nat, s < 13 → CA (up g 0 11 0) (63 + 8 * s) (Sea h s) := fun s hs => CA_fr (r s hs) (fun a _ _ => up_nk (by omega))
    have z13 : up g 0 11 0 0 11 = 0 := up_eq ..
    refine ⟨up g 0 11 0, ⟨Bas_fr i1 (fun a ha => fa a (by unfold bsc at ha; omega) (by unfold bsc at ha; omega)) (by rw [fa 167 (by omega) (by omega)]) (by rw [fa 167 (by omega) (by omega)]) (by rw [fa 167 (by omega) (by omega)]), Or.inl z13, by rw [fj 12 (by omega)]; exact i3, ?_, ?_⟩, z13, ?_, ca, fa, fj⟩
    · intro _ s hs
      rw [Sea_fr f9]; exact ca s hs
    · intro q
      rw [fj 12 (by omega)] at q
      rw [Sea_fr f9]
      exact OA_fr (fun a _ _ => fa a (by omega) (by omega)) (i5 q)
    · intro s a b
      constructor
      · unfold sf_seasonAt
        rw [if_neg (by rw [z]; decide), e]
        simp (disch := omega) only [bd_some, lt_eq, wr_id, chk_t]
      · unfold sf_seasonAt
        simp (disch := omega) only [z13, wr_id, if_true, bd_some, chk_t]
/-! the model beside it -/
def bI (c : Prop) [Decidable c] : Int := if c then 1 else 0
/-- t is a heap in which the model answers for the land of h -/
def Mf (h t : Hp) : Prop := INV t ∧ ∀ a, 9 ≤ a → a ≤ 14 → t a = h a
theorem Mf_0 {h F : Hp} (hF : Fil h F) {j v : Int} (h1 : j ≠ 6) (h2 : j ≠ 14) (h3 : j ≠ 15) : Mf h (up F 167 j v) := ⟨INV_fx hF.1 (FX_167 F h1 h2 h3), fun a x y => by rw [up_nk (by omega)]; exact hF.2.2.2.2.1 a (by omega) (by omega)⟩
theorem Mf_self {h : Hp} (hI : INV h) {v : Int} : Mf h (up h 167 0 v) := ⟨INV_fx hI (FX_167 h (by omega) (by omega) (by omega)), fun a x y => up_nk (by omega)⟩
theorem Mf_fx {h t u : Hp} (hM : Mf h t) (hf : FX t u) : Mf h u := ⟨INV_fx hM.1 hf, fun a x y => by rw [hf.1 a (by unfold scr; omega)]; exact hM.2 a x y⟩
theorem Mf_L0 {h t : Hp} (hM : Mf h t) : L0 t := hM.1.1.2.2.1
theorem Mf_L9 {h t : Hp} (hM : Mf h t) : LOk9 t := hM.1.1.2.2.2.1
theorem Mf_Sea {h t : Hp} (hM : Mf h t) (s : Nat) : Sea t s = Sea h s := Sea_fr (fun a ha => hM.2 a ha.1 ha.2) s
theorem Mf_lays {h t : Hp} (hM : Mf h t) {s : Int} (hs : 0 ≤ s ∧ s ≤ 12) : ∃ u, md_lays t s = some u ∧ MB u (Sea h s.toNat) ∧ MA u (Sea h s.toNat) ∧ Mf h u := by
  obtain ⟨u, e, k1, k2, f⟩ := m_lays hs (Mf_L0 hM) (Mf_L9 hM)
  rw [Mf_Sea hM] at k1 k2
  exact ⟨u, e, k1, k2, Mf_fx hM (FX_Fr f)⟩
theorem Mf_first {h t : Hp} (hM : Mf h t) : ∃ u, md_laysFirst t = some u ∧ MB u (Sea h 0) ∧ MA u (Sea h 0) ∧ Mf h u := by
  obtain ⟨u, e, k1, k2, f⟩ := m_laysFirst (Mf_L0 hM) (Mf_L9 hM)
  rw [Mf_Sea hM] at k1 k2
  exact ⟨u, e, k1, k2, Mf_fx hM (FX_Fr f)⟩
theorem Mf_beg {h t : Hp} (hM : Mf h t) : ∃ u, md_begins0 t = some u ∧ MB u (Sea h 0) ∧ Mf h u := by
  obtain ⟨u, e, k1, f⟩ := m_begins0 (Mf_L0 hM) (Mf_L9 hM)
  rw [Mf_Sea hM] at k1
  exact ⟨u, e, k1, Mf_fx hM (FX_Fr f)⟩
theorem Mf_pass {h t : Hp} (hM : Mf h t) {s : Nat} (hs : s < 13) (k1 : MB t (Sea h s)) (k2 : MA t (Sea h s)) : ∃ u, md_passes t (s : Int) = some u ∧ MB u (Sea h (s + 1)) ∧ MA u (Sea h (s + 1)) ∧ Mf h u := by
  rw [← Mf_Sea hM] at k1 k2
  obtain ⟨u, e, q1, q2, f⟩ := m_pass hs (Mf_L0 hM) (Mf_L9 hM) (Fr_rfl t) k1 k2
  rw [Mf_Sea hM] at q1 q2
  exact ⟨u, e, q1, q2, Mf_fx hM (FX_Fr f)⟩
/-! asked of every call -/
theorem in32 {a : Int} (w : wr a = a) : -2147483648 ≤ a ∧ a < 2147483648 := by have := wr_in a; rw [w] at this; exact this
theorem m_in {t : Hp} {a x y : Int} (h1 : -9223372036854775808 ≤ a ∧ a < 9223372036854775808) (h2 : -9223372036854775808 ≤ x ∧ x < 9223372036854775808) (h3 : -9223372036854775808 ≤ y ∧ y < 9223372036854775808) : md_in t a x y = some (bI (x ≤ a ∧ a ≤ y)) := by
  unfold md_in bI
  rw [wl_id h1, wl_id h2, wl_id h3]
  by_cases q1 : x ≤ a
  · by_cases q2 : a ≤ y
    · simp [q1, q2, chk]
    · simp [q1, q2, chk]
  · simp [q1, chk]
theorem bI_01 (c : Prop) [Decidable c] : bI c = 0 ∨ bI c = 1 := by unfold bI; split <;> simp
theorem bI_wr (c : Prop) [Decidable c] : wr (bI c) = bI c := wr_id (by have := bI_01 c; omega)
theorem bI_t {c : Prop} [Decidable c] (h : c) : bI c = 1 := if_pos h
theorem bI_f {c : Prop} [Decidable c] (h : ¬ c) : bI c = 0 := if_neg h
theorem bI_iff {c d : Prop} [Decidable c] [Decidable d] (h : c ↔ d) : bI c = bI d := by
  unfold bI
  by_cases q : c
  · rw [if_pos q, if_pos (h.mp q)]
  · rw [if_neg q, if_neg (fun z => q (h.mpr z))]
theorem Mf_n {h t : Hp} (hM : Mf h t) : t 174 0 = h 9 1 ∧ t 174 1 = h 9 2 ∧ t 174 2 = h 9 3 ∧ t 174 3 = h 9 4 ∧ t 174 4 = h 9 5 ∧ t 174 5 = h 9 8 ∧ t 173 0 = h 9 6 := by
  obtain ⟨n6, n0, n1, n2, n3, n4, n5, _⟩ := Mf_L0 hM
  have e9 := hM.2 9 (by omega) (by omega)
  rw [e9] at n6 n0 n1 n2 n3 n4 n5
  exact ⟨n0, n1, n2, n3, n4, n5, n6⟩
theorem INV_l {h : Hp} (hI : INV h) : LOk9 h := hI.1.2.2.2.1
theorem c_isP {h : Hp} (hI : INV h) {a : Int} (w : wr a = a) : sf_isPerson h a = some (bI (0 ≤ a ∧ a < h 9 5)) := by
  obtain ⟨l0, l1, l2, l3, l4, l5, l6, l8, lT, lZ, lA, lx⟩ := INV_l hI
  have wP : wr (h 9 5) = h 9 5 := wr_id (by omega)
  unfold sf_isPerson bI
  rw [w, wP]
  by_cases q1 : 0 ≤ a
  · by_cases q2 : a < h 9 5
    · simp [q1, q2, chk]
    · simp [q1, q2, chk]
  · simp [q1, chk]
theorem c_isK {h : Hp} (hI : INV h) {a : Int} (w : wr a = a) : sf_isKind h a = some (bI (0 ≤ a ∧ a < h 9 1)) := by
  obtain ⟨l0, l1, l2, l3, l4, l5, l6, l8, lT, lZ, lA, lx⟩ := INV_l hI
  have wP : wr (h 9 1) = h 9 1 := wr_id (by omega)
  unfold sf_isKind bI
  rw [w, wP]
  by_cases q1 : 0 ≤ a
  · by_cases q2 : a < h 9 1
    · simp [q1, q2, chk]
    · simp [q1, q2, chk]
  · simp [q1, chk]
theorem c_isS {h : Hp} (hI : INV h) {a : Int} (w : wr a = a) : sf_isSeason h a = some (bI (h 9 0 = 1 ∧ 0 ≤ a ∧ a < 13)) := by
  obtain ⟨l0, _⟩ := INV_l hI
  have w13 : wr 13 = 13 := rfl
  unfold sf_isSeason bI
  rcases l0 with z | z
  · rw [w, z, w13, if_pos (show wr 0 = 0 from rfl)]
    simp [chk]
  · rw [w, z, w13, if_neg (show ¬ wr 1 = 0 by decide)]
    by_cases q1 : 0 ≤ a
    · by_cases q2 : a < 13
      · simp [q1, q2, chk]
      · simp [q1, q2, chk]
    · simp [q1, chk]
theorem there_P {h : Hp} (hI : INV h) {a : Int} (q : 0 ≤ a ∧ a < h 9 5) : h 9 0 = 1 := by
  obtain ⟨l0, l1, l2, l3, l4, l5, l6, l8, lT, lZ, lA, lx, ly⟩ := INV_l hI
  rcases l0 with z | z
  · have := (lx z).2.1; omega
  · exact z
theorem there_K {h : Hp} (hI : INV h) {a : Int} (q : 0 ≤ a ∧ a < h 9 1) : h 9 0 = 1 := by
  obtain ⟨l0, l1, l2, l3, l4, l5, l6, l8, lT, lZ, lA, lx, ly⟩ := INV_l hI
  rcases l0 with z | z
  · have := (lx z).1; omega
  · exact z
theorem there_l {h : Hp} (hI : INV h) : (0 < h 9 6) ↔ h 9 0 = 1 := by
  obtain ⟨l0, l1, l2, l3, l4, l5, l6, l8, lT, lZ, lA, lx, ly⟩ := INV_l hI
  rcases l0 with z | z
  · have := (lx z).2.2.1; omega
  · have := (ly z).2; omega
theorem c_isPS {h : Hp} (hI : INV h) {a b : Int} (w : wr a = a) (w2 : wr b = b) : sf_isPersonIn h a b = some (bI ((0 ≤ a ∧ a < h 9 5) ∧ 0 ≤ b ∧ b < 13)) := by
  unfold sf_isPersonIn
  rw [c_isP hI w, bd_some, bI_wr]
  by_cases q : 0 ≤ a ∧ a < h 9 5
  · have th := there_P hI q
    rw [bI_t q, if_neg (by omega), c_isS hI w2, bd_some, bI_wr]
    by_cases q2 : 0 ≤ b ∧ b < 13
    · rw [bI_t ⟨th, q2⟩, if_neg (by omega), bI_t ⟨q, q2⟩]; rfl
    · rw [bI_f (fun z => q2 z.2), if_pos rfl, bI_f (fun z => q2 z.2)]; rfl
  · rw [bI_f q, if_pos rfl, bI_f (fun z => q z.1)]; rfl
theorem c_isKS {h : Hp} (hI : INV h) {a b : Int} (w : wr a = a) (w2 : wr b = b) : sf_isKindIn h a b = some (bI ((0 ≤ a ∧ a < h 9 1) ∧ 0 ≤ b ∧ b < 13)) := by
  unfold sf_isKindIn
  rw [c_isK hI w, bd_some, bI_wr]
  by_cases q : 0 ≤ a ∧ a < h 9 1
  · have th := there_K hI q
    rw [bI_t q, if_neg (by omega), c_isS hI w2, bd_some, bI_wr]
    by_cases q2 : 0 ≤ b ∧ b < 13
    · rw [bI_t ⟨th, q2⟩, if_neg (by omega), bI_t ⟨q, q2⟩]; rfl
    · rw [bI_f (fun z => q2 z.2), if_pos rfl, bI_f (fun z => q2 z.2)]; rfl
  · rw [bI_f q, if_pos rfl, bI_f (fun z => q z.1)]; rfl
theorem c_pair {h : Hp} (hI : INV h) {a b : Int} (w : wr a = a) (w2 : wr b = b) : sf_arePair h a b = some (bI ((0 ≤ a ∧ a < h 9 5) ∧ (0 ≤ b ∧ b < h 9 5) ∧ a ≠ b)) := by
  unfold sf_arePair
  rw [c_isP hI w, bd_some, bI_wr]
  by_cases q : 0 ≤ a ∧ a < h 9 5
  · rw [bI_t q, if_neg (by omega), c_isP hI w2, bd_some, bI_wr]
    by_cases q2 : 0 ≤ b ∧ b < h 9 5
    · rw [bI_t q2, if_neg (by omega), w, w2]
      by_cases q3 : a = b
      · rw [if_pos q3, bI_f (fun z => z.2.2 q3)]; rfl
      · rw [if_neg q3, bI_t ⟨q, q2, q3⟩]; rfl
    · rw [bI_f q2, if_pos rfl, bI_f (fun z => q2 z.2.1)]; rfl
  · rw [bI_f q, if_pos rfl, bI_f (fun z => q z.1)]; rfl
theorem c_choice (h : Hp) {a : Int} (w : wr a = a) : sf_isChoice h a = some (bI (0 ≤ a ∧ a ≤ 1)) := by
  have w1 : wr 1 = 1 := rfl
  unfold sf_isChoice bI
  rw [w, w1]
  by_cases q1 : a = 0
  · simp [q1, chk]
  · by_cases q2 : a = 1
    · simp [q2, chk]
    · rw [if_neg (show ¬ (0 ≤ a ∧ a ≤ 1) by omega)]
      simp [q1, q2, chk]
theorem Mf_isP {h t : Hp} (hI : INV h) (hM : Mf h t) {a : Int} (w : wr a = a) : md_isPerson t (wr a) = some (bI (0 ≤ a ∧ a < h 9 5)) := by
  obtain ⟨l0, l1, l2, l3, l4, l5, l6, l8, lT, lZ, lA, lx⟩ := INV_l hI
  have b := in32 w
  unfold md_isPerson md_people
  rw [bd_some, (Mf_n hM).2.2.2.2.1, w, wr_id (by omega), m_in (by omega) (by omega) (by omega), bd_some, chk_t (bI_01 _)]
  exact congrArg some (bI_iff (by omega))
theorem Mf_isF {h t : Hp} (hI : INV h) (hM : Mf h t) : md_isField t = some (bI (h 9 0 = 1)) := by
  obtain ⟨l0, l1, l2, l3, l4, l5, l6, l8, lT, lZ, lA, lx⟩ := INV_l hI
  unfold md_isField
  rw [(Mf_n hM).2.2.2.2.2.2, wr_id (by omega)]
  have := there_l hI
  by_cases q : 0 < h 9 6
  · rw [bI_t (this.mp q)]; simp [q, chk]
  · rw [bI_f (fun z => q (this.mpr z))]; simp [q, chk]
theorem Mf_isK {h t : Hp} (hI : INV h) (hM : Mf h t) {a : Int} (w : wr a = a) : md_isKind t (wr a) = some (bI (0 ≤ a ∧ a < h 9 1)) := by
  obtain ⟨l0, l1, l2, l3, l4, l5, l6, l8, lT, lZ, lA, lx⟩ := INV_l hI
  have b := in32 w
  unfold md_isKind md_kindsAll
  rw [Mf_isF hI hM, bd_some, bI_wr]
  by_cases q : h 9 0 = 1
  · rw [bI_t q, if_neg (by omega), bd_some, (Mf_n hM).1, w, wr_id (by omega), m_in (by omega) (by omega) (by omega), bd_some, bI_wr]
    by_cases q2 : 0 ≤ a ∧ a < h 9 1
    · rw [bI_t (show 0 ≤ a ∧ a ≤ h 9 1 - 1 by omega), if_neg (by omega), bI_t q2]; rfl
    · rw [bI_f (show ¬ (0 ≤ a ∧ a ≤ h 9 1 - 1) by omega), if_pos rfl, bI_f q2]; rfl
  · rw [bI_f q, if_pos rfl, bI_f (fun z => q (there_K hI z))]; rfl
theorem Mf_isS {t : Hp} {a : Int} (w : wr a = a) : md_isSeason t a = some (bI (0 ≤ a ∧ a < 13)) := by
  have b := in32 w
  unfold md_isSeason
  rw [w, m_in (by omega) (by omega) (by omega), bd_some, chk_t (bI_01 _)]
  exact congrArg some (bI_iff (by omega))
theorem Mf_isT {h t : Hp} (hI : INV h) (hM : Mf h t) {a : Int} (w : wr a = a) : md_isTime t a = some (bI (h 9 0 = 1 ∧ 0 ≤ a ∧ a < 13)) := by
  unfold md_isTime
  rw [Mf_isF hI hM, bd_some, bI_wr]
  by_cases q : h 9 0 = 1
  · rw [bI_t q, if_neg (by omega), Mf_isS w, bd_some, bI_wr]
    by_cases q2 : 0 ≤ a ∧ a < 13
    · rw [bI_t q2, if_neg (by omega), bI_t ⟨q, q2⟩]; rfl
    · rw [bI_f q2, if_pos rfl, bI_f (fun z => q2 z.2)]; rfl
  · rw [bI_f q, if_pos rfl, bI_f (fun z => q z.1)]; rfl
theorem Mf_half {t : Hp} {a : Int} (w : wr a = a) : md_isHalf t a = some (bI (0 ≤ a ∧ a ≤ 1)) := by
  have b := in32 w
  unfold md_isHalf
  rw [w, m_in (by omega) (by omega) (by omega), bd_some, chk_t (bI_01 _)]
theorem Mf_two {h t : Hp} (hI : INV h) (hM : Mf h t) {a b : Int} (w : wr a = a) (w2 : wr b = b) : md_areTwo t a b = some (bI ((0 ≤ a ∧ a < h 9 5) ∧ (0 ≤ b ∧ b < h 9 5) ∧ a ≠ b)) := by
  unfold md_areTwo
  rw [Mf_isP hI hM w, bd_some, bI_wr]
  by_cases q : 0 ≤ a ∧ a < h 9 5
  · rw [bI_t q, if_neg (by omega), Mf_isP hI hM w2, bd_some, bI_wr]
    by_cases q2 : 0 ≤ b ∧ b < h 9 5
    · rw [bI_t q2, if_neg (by omega), w, w2]
      by_cases q3 : a = b
      · rw [if_pos q3, bI_f (fun z => z.2.2 q3)]; rfl
      · rw [if_neg q3, bI_t ⟨q, q2, q3⟩]; rfl
    · rw [bI_f q2, if_pos rfl, bI_f (fun z => q2 z.2.1)]; rfl
  · rw [bI_f q, if_pos rfl, bI_f (fun z => q z.1)]; rfl
