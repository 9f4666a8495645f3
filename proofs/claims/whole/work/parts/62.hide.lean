/-! Layer 2: the model doesn't look at the class -/
def ovl (g t : Hp) : Hp := fun a => if a < 167 then g a else t a
theorem ov_rd {g t : Hp} {a : Nat} (h : 167 ≤ a) : ovl g t a = t a := by unfold ovl; rw [if_neg (by omega)]
theorem ov_lo {g t : Hp} {a : Nat} (h : a < 167) : ovl g t a = g a := by unfold ovl; rw [if_pos h]
theorem ov_up {g t : Hp} {k : Nat} {i v : Int} (h : 167 ≤ k) : up (ovl g t) k i v = ovl g (up t k i v) := by
  funext a j
  unfold up ovl
  by_cases q : a < 167
  · have : ¬ (a = k ∧ j = i) := by omega
    simp [q, this]
  · simp [q]
theorem it_cm {σ ρ : Type} {body body' : σ → Option (σ ⊕ ρ)} (φ : σ → σ) (ψ : ρ → ρ) (hb : ∀ s, body' (φ s) = Option.map (Sum.map φ ψ) (body s)) : ∀ (f : Nat) (s : σ), iter f body' (φ s) = Option.map ψ (iter f body s) := by
  intro f
  induction f with
  | zero => intro s; rfl
  | succ f ih =>
    intro s
    unfold iter
    rw [hb s]
    cases hq : body s with
    | none => rfl
    | some o =>
      cases o with
      | inl s' => exact ih s'
      | inr r => rfl
theorem n_itb {α β : Type} {c : Prop} [Decidable c] (X Y : Option α) (k : α → Option β) : Option.bind (if c then X else Y) k = if c then Option.bind X k else Option.bind Y k := by split <;> rfl
theorem n_chb {α β : Type} {c : Prop} [Decidable c] (X : Option α) (k : α → Option β) : Option.bind (chk c X) k = chk c (Option.bind X k) := by unfold chk; split <;> rfl
theorem n_asc {α β γ : Type} (X : Option α) (k : α → Option β) (l : β → Option γ) : Option.bind (Option.bind X k) l = Option.bind X (fun a => Option.bind (k a) l) := by cases X <;> rfl
theorem n_itm {α β : Type} {c : Prop} [Decidable c] (X Y : Option α) (k : α → β) : Option.map k (if c then X else Y) = if c then Option.map k X else Option.map k Y := by split <;> rfl
theorem n_chm {α β : Type} {c : Prop} [Decidable c] (X : Option α) (k : α → β) : Option.map k (chk c X) = chk c (Option.map k X) := by unfold chk; split <;> rfl
theorem n_bdm {α β γ : Type} (X : Option α) (k : α → Option β) (l : β → γ) : Option.map l (Option.bind X k) = Option.bind X (fun a => Option.map l (k a)) := by cases X <;> rfl
theorem n_mpb {α β γ : Type} (X : Option α) (k : α → β) (l : β → Option γ) : Option.bind (Option.map k X) l = Option.bind X (fun a => l (k a)) := by cases X <;> rfl
theorem n_sm {α β : Type} (x : α) (k : α → β) : Option.map k (some x) = some (k x) := rfl
theorem n_inl {α β γ δ : Type} (f : α → γ) (g : β → δ) (x : α) : Sum.map f g (.inl x) = .inl (f x) := rfl
theorem n_inr {α β γ δ : Type} (f : α → γ) (g : β → δ) (x : β) : Sum.map f g (.inr x) = .inr (g x) := rfl
section OVL
variable (g t : Hp)
theorem o_people : md_people (ovl g t) = md_people t := by unfold md_people; rw [ov_rd (by omega)]
theorem o_kinds : md_kindsAll (ovl g t) = md_kindsAll t := by unfold md_kindsAll; rw [ov_rd (by omega)]
theorem o_ta (p k : Int) : md_tasteOf (ovl g t) p k = md_tasteOf t p k := by unfold md_tasteOf; rw [ov_rd (by omega)]
theorem o_bit (p k : Int) : md_isBit (ovl g t) p k = md_isBit t p k := rfl
theorem o_hates (p : Int) : md_hatesOf (ovl g t) p = md_hatesOf t p := by
  unfold md_hatesOf
  have : md_hatesOf_b1 (ovl g t) p = md_hatesOf_b1 t p := by
    funext s
    unfold md_hatesOf_b1
    rw [o_kinds, o_ta]
  rw [this]
theorem o_open (p : Int) : md_openOf (ovl g t) p = md_openOf t p := by
  unfold md_openOf
  rw [o_hates, ov_rd (by omega), ov_rd (by omega)]
theorem o_dec (p : Int) : md_decidesFor (ovl g t) p = md_decidesFor t p := by
  unfold md_decidesFor
  rw [ov_rd (show 167 ≤ 180 by omega), ov_rd (show 167 ≤ 179 by omega), ov_rd (show 167 ≤ 174 by omega), ov_rd (show 167 ≤ 167 by omega)]
theorem o_may (p : Int) : md_mayOf (ovl g t) p = md_mayOf t p := by
  unfold md_mayOf
  simp only [o_dec, o_kinds, o_open, ov_rd (show 167 ≤ 174 by omega)]
theorem o_liked (p s : Int) : md_likedOf (ovl g t) p s = md_likedOf t p s := by
  unfold md_likedOf
  have : md_likedOf_b1 (ovl g t) p s = md_likedOf_b1 t p s := by
    funext z
    unfold md_likedOf_b1
    simp only [o_kinds, o_ta, o_bit]
  rw [this]
theorem o_grow : md_grow (ovl g t) = Option.map (ovl g) (md_grow t) := by
  unfold md_grow
  have := it_cm (body := md_grow_b1) (body' := md_grow_b1) (fun s => (s.1, ovl g s.2)) (ovl g) (fun s => by
    simp (disch := omega) only [md_grow_b1, ov_rd, o_may, o_liked, ov_up, n_itb, n_chb, n_asc, n_itm, n_chm, n_bdm, n_mpb, n_sm, n_inl, n_inr, lt_eq]) FU (0, t)
  dsimp only at this
  rw [this]
  simp only [n_mpb, n_bdm, n_sm]
theorem o_changes (p q : Int) : md_changes (ovl g t) p q = Option.map (ovl g) (md_changes t p q) := by
  simp (disch := omega) only [md_changes, ov_rd, ov_up, n_chm, n_sm, lt_eq]
theorem o_acts (s : Int) : md_acts (ovl g t) s = Option.map (ovl g) (md_acts t s) := by
  unfold md_acts
  have := it_cm (body := md_acts_b1 s) (body' := md_acts_b1 s) (fun s => (s.1, ovl g s.2)) (ovl g) (fun s => by
    simp (disch := omega) only [md_acts_b1, ov_rd, o_changes, ov_up, n_itb, n_chb, n_asc, n_itm, n_chm, n_bdm, n_mpb, n_sm, n_inl, n_inr, lt_eq, bd_some]) FU (0, t)
  dsimp only at this
  rw [this]
  simp only [n_mpb, n_bdm, n_sm]
theorem o_beg2 (z z' : Int × Hp) (hz : z'.1 = z.1) (i : Int) : iter FU (md_begins0_b2 z') (i, ovl g t) = Option.map (ovl g) (iter FU (md_begins0_b2 z) (i, t)) :=
  it_cm (body := md_begins0_b2 z) (body' := md_begins0_b2 z') (fun s => (s.1, ovl g s.2)) (ovl g) (fun s => by
    simp (disch := omega) only [md_begins0_b2, hz, ov_rd, ov_up, n_itb, n_chb, n_asc, n_itm, n_chm, n_bdm, n_mpb, n_sm, n_inl, n_inr, lt_eq, bd_some]) FU (i, t)
theorem o_begins0 : md_begins0 (ovl g t) = Option.map (ovl g) (md_begins0 t) := by
  unfold md_begins0
  simp (disch := omega) only [md_people, bd_some, lt_eq, ov_rd, ov_up, n_bdm]
  have := it_cm (body := md_begins0_b1) (body' := md_begins0_b1) (fun s => (s.1, ovl g s.2)) (ovl g) (fun s => by
    simp (disch := omega) only [md_begins0_b1, o_people, ov_rd, ov_up, n_itb, n_chb, n_asc, n_itm, n_chm, n_bdm, n_mpb, n_sm, n_inl, n_inr, lt_eq, bd_some, o_beg2 g _ s (s.1, ovl g s.2) rfl]) FU (0, up t 167 26 (t 174 4))
  dsimp only at this
  rw [this]
  simp only [n_mpb, n_bdm, n_sm, o_acts]
theorem o_pas2 (z z' : Int × Hp) (hz : z'.1 = z.1) (i : Int) : iter FU (md_passes_b2 z') (i, ovl g t) = Option.map (ovl g) (iter FU (md_passes_b2 z) (i, t)) :=
  it_cm (body := md_passes_b2 z) (body' := md_passes_b2 z') (fun s => (s.1, ovl g s.2)) (ovl g) (fun s => by
    simp (disch := omega) only [md_passes_b2, hz, o_kinds, o_ta, ov_rd, ov_up, n_itb, n_chb, n_asc, n_itm, n_chm, n_bdm, n_mpb, n_sm, n_inl, n_inr, lt_eq, bd_some]) FU (i, t)
theorem o_passes (s : Int) : md_passes (ovl g t) s = Option.map (ovl g) (md_passes t s) := by
  unfold md_passes
  have := it_cm (body := md_passes_b1) (body' := md_passes_b1) (fun s => (s.1, ovl g s.2)) (ovl g) (fun s => by
    simp (disch := omega) only [md_passes_b1, o_people, o_ta, ov_rd, ov_up, n_itb, n_chb, n_asc, n_itm, n_chm, n_bdm, n_mpb, n_sm, n_inl, n_inr, lt_eq, bd_some, o_pas2 g _ s (s.1, ovl g s.2) rfl]) FU (0, t)
  dsimp only at this
  rw [this]
  simp only [n_mpb, n_bdm, n_sm, o_acts, o_grow]
theorem o_first : md_laysFirst (ovl g t) = Option.map (ovl g) (md_laysFirst t) := by
  unfold md_laysFirst
  simp only [n_mpb, n_bdm, n_sm, o_begins0, o_grow]
theorem o_lays (s : Int) : md_lays (ovl g t) s = Option.map (ovl g) (md_lays t s) := by
  unfold md_lays
  rw [o_first]
  simp only [n_mpb, n_bdm]
  refine congrArg (Option.bind (md_laysFirst t)) (funext fun r => ?_)
  have := it_cm (body := md_lays_b1 s) (body' := md_lays_b1 s) (fun s => (s.1, ovl g s.2)) (ovl g) (fun s => by
    simp (disch := omega) only [md_lays_b1, o_passes, n_itb, n_chb, n_asc, n_itm, n_chm, n_bdm, n_mpb, n_sm, n_inl, n_inr, lt_eq, bd_some]) FU (0, r)
  dsimp only at this
  rw [this]
  simp only [n_mpb, n_sm]
end OVL
theorem hide_cls {h F : Hp} (hI : INV h) (hF : Fil h F) {a1 a2 a3 a4 : Int} (w1 : wr a1 = a1) (w2 : wr a2 = a2) (w3 : wr a3 = a3) (w4 : wr a4 = a4) (g1 : 0 ≤ a1 ∧ a1 < h 9 5) (g2 : 0 ≤ a2 ∧ a2 < h 9 1) (g3 : 0 ≤ a3 ∧ a3 < 13) (g4 : 0 ≤ a4 ∧ a4 ≤ 1) (X : Int × Hp) (ea : ld_addAct F 9 (if a4 = 1 then 2 else 1) a1 a2 a3 = some X) : sf_hide h a1 a2 a3 a4 = if wr X.1 = 0 then some (-5, X.2) else some (if bt (sH (Sea h a3.toNat) a1 a2) 1 = 0 then 0 else 1, fgH X.2) := by
  have lP : h 9 5 ≤ 6 := (INV_l hI).2.2.2.2.2.1.2
  have lK : h 9 1 ≤ 5 := (INV_l hI).2.1.2
  have eP := (Sea_ok hI a3.toNat).2.2.2.2.1
  have ca := ca_at hF (s := a3) g3
  have ch := ca.1.2.2.2.2.2 a1 g1.1 (by omega)
  have hh := c_holds F (sH (Sea h a3.toNat) a1) (k := a2) (by omega)
  have n1 : ¬ wr 1 = 0 := by decide
  unfold sf_hide
  rw [c_isPS hI w1 w3, bd_some, bI_t ⟨g1, g3⟩, if_neg n1, c_isK hI w2, bd_some, bI_t g2, if_neg n1, c_choice h w4, bd_some, bI_t g4, if_neg n1, (hF.2.2.1 a3 g3.1 g3.2).1, bd_some, ch_s g3]
  dsimp only
  rw [w1, chk_t (show 0 ≤ a1 ∧ a1 < 6 by omega), ch, hh, bd_some, w4, show wr 1 = 1 from rfl, ea, bd_some, fg_c, bd_some, wr_bt]
theorem hide_mod {k F u : Hp} {h : Hp} (hI : INV h) (m1 : Mf h (up F 167 0 0)) {a1 a2 a3 a4 : Int} (w1 : wr a1 = a1) (w2 : wr a2 = a2) (w3 : wr a3 = a3) (w4 : wr a4 = a4) (g1 : 0 ≤ a1 ∧ a1 < h 9 5) (g2 : 0 ≤ a2 ∧ a2 < h 9 1) (g3 : 0 ≤ a3 ∧ a3 < 13) (g4 : 0 ≤ a4 ∧ a4 ≤ 1) (g5 : h 9 8 < 40) (ko : up k 167 0 0 = ovl k (up F 167 0 0)) (et : md_lays (up F 167 0 0) a3 = some u) (kB : MB u (Sea h a3.toNat)) (mt : Mf h u) : md_hide k a1 a2 a3 a4 = some (if bt (sH (Sea h a3.toNat) a1 a2) 1 = 0 then 0 else 1, doH (ovl k u) (if a4 = 1 then 1 else 2) a1 a2 a3) := by
  have lP : h 9 5 ≤ 6 := (INV_l hI).2.2.2.2.2.1.2
  have lK : h 9 1 ≤ 5 := (INV_l hI).2.1.2
  have l8 := (INV_l hI).2.2.2.2.2.2.2.1
  have eP := (Sea_ok hI a3.toNat).2.2.2.2.1
  have n5 : up F 167 0 0 174 5 = h 9 8 := (Mf_n m1).2.2.2.2.2.1
  have p1 := Mf_isP hI m1 w1
  have p2 := Mf_isK hI m1 w2
  have n1 : ¬ wr 1 = 0 := by decide
  have el : md_lays (up k 167 0 0) a3 = some (ovl k u) := by rw [ko, o_lays, et]; rfl
  have q1 : md_isPerson (up k 167 0 0) (wr a1) = some (bI (0 ≤ a1 ∧ a1 < h 9 5)) := by
    rw [← p1, ko]; unfold md_isPerson md_people md_in; rw [ov_rd (by omega)]
  have q2 : md_isKind (up k 167 0 0) (wr a2) = some (bI (0 ≤ a2 ∧ a2 < h 9 1)) := by
    rw [← p2, ko]; unfold md_isKind md_isField md_kindsAll md_in; rw [ov_rd (by omega), ov_rd (by omega)]
  have q5 : up k 167 0 0 174 5 = h 9 8 := by rw [ko, ov_rd (by omega)]; exact n5
  have u5 : ovl k u 174 5 = h 9 8 := by rw [ov_rd (by omega), (Mf_n mt).2.2.2.2.2.1]
  have u181 : ovl k u 181 a1 = bs (sH (Sea h a3.toNat) a1) := by rw [ov_rd (by omega)]; exact (kB.2.2.2.2.2 a1 g1.1 (by omega)).2.2.1
  have hb := m_isBit (ovl k u) (sH (Sea h a3.toNat) a1) (k := a2) (by omega)
  have ed := m_does (t := ovl k u) (by omega) (if a4 = 1 then 1 else 2) a1 a2 a3
  unfold md_hide
  rw [lt_eq, q1, bd_some, bI_t g1, if_neg n1, q2, bd_some, bI_t g2, if_neg n1, Mf_isS w3, bd_some, bI_t g3, if_neg n1, Mf_half w4, bd_some, bI_t g4, if_neg n1, q5, if_neg (show ¬ wr (h 9 8) = wr 40 by rw [wr_id (by omega), wr_id (by omega)]; omega), el, bd_some, w1, chk_t (show 0 ≤ a1 ∧ a1 < 6 by omega), u181, hb, bd_some, w4, show wr 1 = 1 from rfl, ed, bd_some, wr_bt]
theorem hide_ok {h : Hp} (hI : INV h) {a1 a2 a3 a4 : Int} (w1 : wr a1 = a1) (w2 : wr a2 = a2) (w3 : wr a3 = a3) (w4 : wr a4 = a4) (g1 : 0 ≤ a1 ∧ a1 < h 9 5) (g2 : 0 ≤ a2 ∧ a2 < h 9 1) (g3 : 0 ≤ a3 ∧ a3 < 13) (g4 : 0 ≤ a4 ∧ a4 ≤ 1) (g5 : h 9 8 < 40) : ∃ (r1 : Int) (h1 : Hp) (r2 : Int) (h2 : Hp), sf_hide h a1 a2 a3 a4 = some (r1, h1) ∧ md_hide h1 a1 a2 a3 a4 = some (r2, h2) ∧ wr r1 = wr r2 ∧ INV h2 := by
  obtain ⟨F, hF⟩ := s_at hI
  have l8 := (INV_l hI).2.2.2.2.2.2.2.1
  have F9 := Fil_9 hF
  have ff : ∀ a, a ≠ 0 → (a < 63 ∨ 166 < a) → F a = h a := hF.2.2.2.2.1
  have f0 : ∀ j, j ≠ 11 → F 0 j = h 0 j := hF.2.2.2.2.2
  have m1 : Mf h (up F 167 0 0) := Mf_0 hF (by omega) (by omega) (by omega)
  have th := there_P hI g1
  obtain ⟨x0, ex⟩ : ∃ x0 : Int, x0 = if a4 = 1 then 2 else 1 := ⟨_, rfl⟩
  obtain ⟨y0, ey⟩ : ∃ y0 : Int, y0 = if a4 = 1 then 1 else 2 := ⟨_, rfl⟩
  have ec := c_add (h := F) (by rw [F9]; omega) x0 a1 a2 a3
  obtain ⟨z1, z2, z3, z4, z5, z6, z7, z8, z9⟩ := adF F x0 a1 a2 a3
  have e1 := hide_cls hI hF w1 w2 w3 w4 g1 g2 g3 g4 _ (by rw [← ex]; exact ec)
  obtain ⟨k, ek⟩ : ∃ k, k = fgH (adH F x0 a1 a2 a3) := ⟨_, rfl⟩
  rw [← ek] at z1 z2 z3 z4 z5 z6 z7 z8 z9
  dsimp only at e1
  rw [if_neg (by decide), ← ek] at e1
  have ko : up k 167 0 0 = ovl k (up F 167 0 0) := by
    funext a j
    by_cases q : a < 167
    · rw [ov_lo q, up_nk (by omega)]
    · have := z7 a (by omega) (by omega) (by omega)
      rw [ov_rd (by omega)]
      unfold up
      rw [this]
  obtain ⟨u, et, kB, _, fr⟩ := m_lays (t := up F 167 0 0) (s := a3) (by omega) (Mf_L0 m1) (Mf_L9 m1)
  have mt : Mf h u := Mf_fx m1 (FX_Fr fr)
  rw [Mf_Sea m1] at kB
  have e2 := hide_mod (k := k) hI m1 w1 w2 w3 w4 g1 g2 g3 g4 g5 ko et kB mt
  refine ⟨_, k, _, _, e1, e2, rfl, ?_⟩
  rw [← ey]
  rw [F9] at z1 z2 z3 z4 z5 z6
  have fx : ∀ a, ((168 ≤ a ∧ a ≤ 170) ∨ (172 ≤ a ∧ a ≤ 177)) → u a = h a := by
    intro a ha
    rw [fr.1 a (by omega) (by omega), up_nk (by omega), ff a (by omega) (by omega)]
  have fx7 : ∀ j, j ≠ 26 → j ≠ 0 → u 167 j = h 167 j := by
    intro j hj hj0
    rw [fr.2 j hj, up_ni hj0, ff 167 (by omega) (by omega)]
  refine INV_act hI (n := h 9 8) (x0 := x0) (k := k) rfl g5 th z1 z2 (by rw [z7 10 (by omega) (by omega) (by omega), ff 10 (by omega) (by omega)]) ?_ ?_ ?_ ?_ (fun a ha => by rw [z7 a (by omega) (by omega) (by omega), ff a (by omega) (by omega)]) (by rw [z8, f0 1 (by omega)]) z9 (fun a ha => ov_lo ha) (fun a ha => by rw [ov_rd (by omega)]; exact fx a ha) ?_ ?_ ?_ ?_ g1 ⟨g2.1, fun q => ?_, fun _ => g2.2⟩ (by omega)
  · rw [ff 11 (by omega) (by omega)] at z3; exact z3
  · rw [ff 12 (by omega) (by omega)] at z4; exact z4
  · rw [ff 13 (by omega) (by omega)] at z5; exact z5
  · rw [ff 14 (by omega) (by omega)] at z6; exact z6
  · rw [ov_rd (by omega)]; exact fx7 6 (by omega) (by omega)
  · rw [ov_rd (by omega)]; exact fx7 14 (by omega) (by omega)
  · rw [ov_rd (by omega)]; exact fx7 15 (by omega) (by omega)
  · by_cases q : a4 = 1
    · rw [if_pos q] at ex ey; exact Or.inr (Or.inr ⟨ex, ey⟩)
    · rw [if_neg q] at ex ey; exact Or.inr (Or.inl ⟨ex, ey⟩)
  · by_cases q' : a4 = 1
    · rw [if_pos q'] at ex; omega
    · rw [if_neg q'] at ex; omega
theorem st_hide : St_hide INV := by
  intro h hI a1 a2 a3 a4 w1 w2 w3 w4
  have l8 := (INV_l hI).2.2.2.2.2.2.2.1
  have n1 : ¬ wr 1 = 0 := by decide
  have n0 : wr 0 = 0 := rfl
  have m0 : Mf h (up h 167 0 0) := Mf_self hI
  have p1 := Mf_isP hI m0 w1
  have p2 := Mf_isK hI m0 w2
  by_cases g1 : 0 ≤ a1 ∧ a1 < h 9 5
  · by_cases g3 : 0 ≤ a3 ∧ a3 < 13
    · by_cases g2 : 0 ≤ a2 ∧ a2 < h 9 1
      · by_cases g4 : 0 ≤ a4 ∧ a4 ≤ 1
        · by_cases g5 : h 9 8 < 40
          · exact hide_ok hI w1 w2 w3 w4 g1 g2 g3 g4 g5
          · obtain ⟨F, hF⟩ := s_at hI
            have F9 := Fil_9 hF
            have m1 : Mf h (up F 167 0 0) := Mf_0 hF (by omega) (by omega) (by omega)
            have p1 := Mf_isP hI m1 w1
            have p2 := Mf_isK hI m1 w2
            have e8 : h 9 8 = 40 := by omega
            refine ⟨-5, F, -5, up F 167 0 0, ?_, ?_, rfl, m1.1⟩
            · have := hide_cls hI hF w1 w2 w3 w4 g1 g2 g3 g4 (0, F) (by unfold ld_addAct; rw [F9, e8, if_pos (by decide)])
              rw [this]; rfl
            · unfold md_hide
              rw [lt_eq, p1, bd_some, bI_t g1, if_neg n1, p2, bd_some, bI_t g2, if_neg n1, Mf_isS w3, bd_some, bI_t g3, if_neg n1, Mf_half w4, bd_some, bI_t g4, if_neg n1, (Mf_n m1).2.2.2.2.2.1, e8, if_pos rfl]
        · refine ⟨-2, h, -2, up h 167 0 0, ?_, ?_, rfl, m0.1⟩
          · unfold sf_hide
            rw [c_isPS hI w1 w3, bd_some, bI_t ⟨g1, g3⟩, if_neg n1, c_isK hI w2, bd_some, bI_t g2, if_neg n1, c_choice h w4, bd_some, bI_f g4, if_pos n0]
          · unfold md_hide
            rw [lt_eq, p1, bd_some, bI_t g1, if_neg n1, p2, bd_some, bI_t g2, if_neg n1, Mf_isS w3, bd_some, bI_t g3, if_neg n1, Mf_half w4, bd_some, bI_f g4, if_pos n0]
      · refine ⟨-2, h, -2, up h 167 0 0, ?_, ?_, rfl, m0.1⟩
        · unfold sf_hide
          rw [c_isPS hI w1 w3, bd_some, bI_t ⟨g1, g3⟩, if_neg n1, c_isK hI w2, bd_some, bI_f g2, if_pos n0]
        · unfold md_hide
          rw [lt_eq, p1, bd_some, bI_t g1, if_neg n1, p2, bd_some, bI_f g2, if_pos n0]
    · refine ⟨-2, h, -2, up h 167 0 0, ?_, ?_, rfl, m0.1⟩
      · unfold sf_hide
        rw [c_isPS hI w1 w3, bd_some, bI_f (fun z => g3 z.2), if_pos n0]
      · unfold md_hide
        rw [lt_eq, p1, bd_some, bI_t g1, if_neg n1, p2, bd_some, bI_wr]
        by_cases g2 : 0 ≤ a2 ∧ a2 < h 9 1
        · rw [bI_t g2, if_neg (by decide), Mf_isS w3, bd_some, bI_f g3, if_pos n0]
        · rw [bI_f g2, if_pos rfl]
  · refine ⟨-2, h, -2, up h 167 0 0, ?_, ?_, rfl, m0.1⟩
    · unfold sf_hide
      rw [c_isPS hI w1 w3, bd_some, bI_f (fun z => g1 z.1), if_pos n0]
    · unfold md_hide
      rw [lt_eq, p1, bd_some, bI_f g1, if_pos n0]
