/-! Layer 2: reading: words, numbers and signs by both -/
def wcd (j : Nat) : Int := ([3369766, 6033331, 8798, 3211399, 298288, 232608281, 6688729, 4285945] : List Int).getD j 0
def wlL (j : Nat) : List Int := ((sByt.getD j []).map (fun b => b.toInt - 96)).reverse
def chJ (j : Nat) (i : Int) : Int := ((sByt.getD j []).getD i.toNat 0).toInt
def lnJ (j : Nat) : Int := ((sLen.getD j 0 : Nat) : Int)
def cdL : List Int → Int
  | [] => 0
  | d :: l => 27 * cdL l + d
def wmL (T : Int → Int) (s : Int) : List Int → Prop
  | [] => True
  | d :: l => T (s + (l.length : Int)) = d + 96 ∧ wmL T s l
theorem dw_len : ∀ j : Fin 8, (wlL j).length = sLen.getD j 0 := by decide +kernel
theorem dw_dig : ∀ j : Fin 8, ((wlL j).all (fun d => decide (1 ≤ d ∧ d ≤ 26))) = true := by decide +kernel
theorem dw_cod : ∀ j : Fin 8, cdL (wlL j) = wcd j := by decide +kernel
theorem dw_chr : ∀ j : Fin 8, ∀ k : Fin 6, (k : Nat) < sLen.getD j 0 → (wlL j).reverse.getD k 0 + 96 = ((sByt.getD j []).getD k 0).toInt := by decide +kernel
theorem dw_l6 : ∀ j : Fin 8, sLen.getD j 0 ≤ 6 := by decide +kernel
theorem dw_cin : ∀ j : Fin 8, 0 ≤ wcd j ∧ wcd j ≤ 1000000000 := by decide +kernel
theorem dw_bin : ∀ j : Fin 8, ∀ k : Fin 6, 0 ≤ ((sByt.getD j []).getD k 0).toInt ∧ ((sByt.getD j []).getD k 0).toInt ≤ 127 := by decide +kernel
theorem cdL_nn : ∀ l : List Int, (∀ d, d ∈ l → 1 ≤ d ∧ d ≤ 26) → 0 ≤ cdL l := by
  intro l
  induction l with
  | nil => intro _; exact Int.le_refl _
  | cons d l ih =>
    intro h
    have h1 := h d List.mem_cons_self
    have h2 := ih (fun x hx => h x (List.mem_cons_of_mem _ hx))
    unfold cdL
    omega
theorem En_in {T : Int → Int} {s : Int} : ∀ k : Nat, (∀ i : Nat, i < k → 97 ≤ T (s + (i : Int)) ∧ T (s + (i : Int)) ≤ 122) → 0 ≤ En T s k ∧ En T s k + 1 ≤ (27 : Int) ^ k := by
  intro k
  induction k with
  | zero => intro _; exact ⟨Int.le_refl _, by show (0 : Int) + 1 ≤ 1; omega⟩
  | succ k ih =>
    intro h
    have h1 := ih (fun i hi => h i (by omega))
    have h2 := h k (by omega)
    rw [Int.pow_succ]
    unfold En
    omega
theorem En_cd {T : Int → Int} {s : Int} : ∀ (l : List Int) (k : Nat), (∀ d, d ∈ l → 1 ≤ d ∧ d ≤ 26) → (∀ i : Nat, i < k → 97 ≤ T (s + (i : Int)) ∧ T (s + (i : Int)) ≤ 122) → (En T s k = cdL l ↔ k = l.length ∧ wmL T s l) := by
  intro l
  induction l with
  | nil =>
    intro k _ h
    cases k with
    | zero => exact ⟨fun _ => ⟨rfl, trivial⟩, fun _ => rfl⟩
    | succ k =>
      have h1 := En_in k (fun i hi => h i (by omega))
      have h2 := h k (by omega)
      unfold En cdL
      constructor
      · intro q; omega
      · intro q; exact absurd q.1 (by simp)
  | cons d l ih =>
    intro k hd h
    have d1 := hd d List.mem_cons_self
    have d2 := cdL_nn l (fun x hx => hd x (List.mem_cons_of_mem _ hx))
    cases k with
    | zero =>
      unfold En cdL
      constructor
      · intro q; omega
      · intro q; exact absurd q.1 (by simp)
    | succ k =>
      have h1 := En_in k (fun i hi => h i (by omega))
      have h2 := h k (by omega)
      have i1 := ih k (fun x hx => hd x (List.mem_cons_of_mem _ hx)) (fun i hi => h i (by omega))
      unfold En cdL wmL
      constructor
      · intro q
        have e1 : En T s k = cdL l := by omega
        have e2 := i1.mp e1
        refine ⟨by rw [List.length_cons, e2.1], ?_, e2.2⟩
        rw [← e2.1]; omega
      · intro q
        have e0 : k = l.length := by have := q.1; rw [List.length_cons] at this; omega
        have e1 := i1.mpr ⟨e0, q.2.2⟩
        have e2 := q.2.1
        rw [← e0] at e2
        omega
theorem wm_all {T : Int → Int} {s : Int} : ∀ l : List Int, wmL T s l ↔ ∀ k : Nat, k < l.length → T (s + (k : Int)) = l.reverse.getD k 0 + 96 := by
  intro l
  induction l with
  | nil => exact ⟨fun _ k hk => absurd hk (by simp), fun _ => trivial⟩
  | cons d l ih =>
    have eL : ∀ k, k < l.length → (d :: l).reverse.getD k 0 = l.reverse.getD k 0 := fun k hk => by
      rw [List.reverse_cons, List.getD_eq_getElem?_getD, List.getD_eq_getElem?_getD, List.getElem?_append_left (by simpa using hk)]
    have eR : (d :: l).reverse.getD l.length 0 = d := by
      rw [List.reverse_cons, List.getD_eq_getElem?_getD, List.getElem?_append_right (by simp)]
      simp
    unfold wmL
    rw [ih]
    constructor
    · intro q k hk
      by_cases z : k = l.length
      · rw [z, eR]; exact q.1
      · have hk' : k < l.length := by rw [List.length_cons] at hk; omega
        rw [eL k hk']; exact q.2 k hk'
    · intro q
      refine ⟨by have := q l.length (by rw [List.length_cons]; omega); rw [eR] at this; exact this, fun k hk => ?_⟩
      have := q k (by rw [List.length_cons]; omega)
      rw [eL k hk] at this
      exact this
section
variable {T : Int → Int} {n : Int} {c m : Hp}
theorem wr_one : wr 1 = 1 := w32 (by omega)
theorem md_is_eq (m : Hp) (x : Int) : md_is m x = some (if wr (m 167 12) = 0 then if wr (m 167 8) = wr 1 then if wl (m 167 11) = wl x then 1 else 0 else 0 else 0) := by
  unfold md_is
  rw [chk_t]
  split
  · split
    · split
      · exact Or.inr rfl
      · exact Or.inl rfl
    · exact Or.inl rfl
  · exact Or.inl rfl
/-- the class holds a word against the text -/
theorem c_isW (hT : TxT T n) (hc : TxC T n c) {j : Nat} (hj : j < 8) {s e : Int} (h0 : 0 ≤ s) (he : s < e ∧ e ≤ n) (e4 : c 1 4 = e) (e5 : c 1 5 = s) (e6 : c 1 6 = 1) : (rd_isWord c j = some 1 ∧ e - s = lnJ j ∧ ∀ k, 0 ≤ k → k < lnJ j → T (s + k) = chJ j k) ∨ (rd_isWord c j = some 0 ∧ ¬ (e - s = lnJ j ∧ ∀ k, 0 ≤ k → k < lnJ j → T (s + k) = chJ j k)) := by
  have hn := hT.1
  have l6 : sLen.getD j 0 ≤ 6 := dw_l6 ⟨j, hj⟩
  have L6 : 0 ≤ lnJ j ∧ lnJ j ≤ 6 := by unfold lnJ; omega
  have eL : jd_length j = some (lnJ j) := rfl
  have e1 : rd_isWord c j = if e - s = lnJ j then Option.bind (iter FU (rd_isWord_b1 c j) 0) (fun o => match o with | .inl _ => some 1 | .inr x => some x) else some 0 := by
    unfold rd_isWord
    rw [e4, e5, e6, if_pos rfl, eL, bd_some, w32 (show -1000000 ≤ e - s ∧ e - s ≤ 1000000 by omega), w32 (show -1000000 ≤ lnJ j ∧ lnJ j ≤ 1000000 by omega)]
    rfl
  rw [e1]
  by_cases z : e - s = lnJ j
  · rw [if_pos z]
    obtain ⟨o, k1, k2⟩ := lp_ex (body := rd_isWord_b1 c j) (s0 := (0 : Int)) (Q := fun o => (o = .inl () ∧ ∀ k, 0 ≤ k → k < lnJ j → T (s + k) = chJ j k) ∨ (o = .inr 0 ∧ ∃ k, 0 ≤ k ∧ k < lnJ j ∧ T (s + k) ≠ chJ j k)) (fun i x => x = i ∧ ∀ k, 0 ≤ k → k < i → T (s + k) = chJ j k) (lnJ j) L6.1 (by omega) ⟨rfl, fun k a b => by omega⟩ (fun i x a b hi => by
      obtain ⟨q1, q2⟩ := hi
      subst q1
      have t := hT.2 (s + x) (by omega) (by omega)
      have bi : 0 ≤ chJ j x ∧ chJ j x ≤ 127 := dw_bin ⟨j, hj⟩ ⟨x.toNat, by omega⟩
      have eC : jd_charAt j x = some (chJ j x) := by
        unfold jd_charAt
        rw [w32 (show -1000000 ≤ x ∧ x ≤ 1000000 by omega), chk_t ⟨a, b⟩]
        rfl
      have eb : rd_isWord_b1 c j x = if T (s + x) = chJ j x then some (.inl (x + 1)) else some (.inr (.inr 0)) := by
        unfold rd_isWord_b1
        rw [eL, bd_some, e5, w32 (show -1000000 ≤ x ∧ x ≤ 1000000 by omega), w32 (show -1000000 ≤ lnJ j ∧ lnJ j ≤ 1000000 by omega), if_pos b, w32 (show -1000000 ≤ s + x ∧ s + x ≤ 1000000 by omega), chk_t (by omega), eC, bd_some, hc.2 (s + x) (by omega) (by omega), w32 (show -1000000 ≤ T (s + x) ∧ T (s + x) ≤ 1000000 by omega), w32 (show -1000000 ≤ chJ j x ∧ chJ j x ≤ 1000000 by omega)]
      rw [eb]
      by_cases y : T (s + x) = chJ j x
      · left
        rw [if_pos y]
        refine ⟨x + 1, rfl, rfl, fun k h1 h2 => ?_⟩
        by_cases w : k = x
        · rw [w]; exact y
        · exact q2 k h1 (by omega)
      · right
        rw [if_neg y]
        exact ⟨_, rfl, Or.inr ⟨rfl, x, a, b, y⟩⟩) (fun x hi => by
      obtain ⟨q1, q2⟩ := hi
      subst q1
      refine ⟨.inl (), ?_, Or.inl ⟨rfl, q2⟩⟩
      unfold rd_isWord_b1
      rw [eL, bd_some, if_neg (Int.lt_irrefl _)])
    rw [k1, bd_some]
    rcases k2 with y | y
    · left
      rw [y.1]
      exact ⟨rfl, z, y.2⟩
    · right
      rw [y.1]
      refine ⟨rfl, fun q => ?_⟩
      obtain ⟨k, y1, y2, y3⟩ := y.2
      exact y3 (q.2 k y1 y2)
  · right
    rw [if_neg z]
    exact ⟨rfl, fun q => z q.1⟩
theorem p12 : ∀ k : Fin 13, (27 : Int) ^ (k : Nat) ≤ 150094635296999121 := by decide +kernel
theorem s_isW (hT : TxT T n) (hc : TxC T n c) (hk : Tk T n 0 c m) (hg : m 167 12 = 0) {j : Nat} (hj : j < 8) {w : Int} (hw : wcd j = w) : (rd_isWord c j = some 1 ∧ md_is m w = some 1 ∧ c 1 6 = 1) ∨ (rd_isWord c j = some 0 ∧ md_is m w = some 0) := by
  have hn := hT.1
  obtain ⟨k1, k2, k3, k4, k5, k6, k7⟩ := hk
  have ci : 0 ≤ wcd j ∧ wcd j ≤ 1000000000 := dw_cin ⟨j, hj⟩
  rw [hw] at ci
  have s6 : 0 ≤ c 1 6 ∧ c 1 6 ≤ 4 := by rcases k5 with q | q <;> omega
  rw [md_is_eq, hg, if_pos (show wr 0 = 0 from rfl), ← k3, w32 (show -1000000 ≤ c 1 6 ∧ c 1 6 ≤ 1000000 by omega), wr_one]
  by_cases z : c 1 6 = 1
  · have q := k7 z
    obtain ⟨s, es⟩ : ∃ s, s = c 1 5 := ⟨_, rfl⟩
    obtain ⟨e, ee⟩ : ∃ e, e = c 1 4 := ⟨_, rfl⟩
    rw [← es, ← ee] at q
    rw [← es, ← ee] at k4 k5
    have se : s < e := by rcases k5 with q | q <;> omega
    have l6 : sLen.getD j 0 ≤ 6 := dw_l6 ⟨j, hj⟩
    have key : m 167 11 = w ↔ (e - s = lnJ j ∧ ∀ k, 0 ≤ k → k < lnJ j → T (s + k) = chJ j k) := by
      rcases q.1 with y | y
      · have hl : ∀ i : Nat, i < (e - s).toNat → 97 ≤ T (s + (i : Int)) ∧ T (s + (i : Int)) ≤ 122 := fun i hi => q.2 _ (by omega) (by omega)
        have h1 := En_cd (T := T) (s := s) (wlL j) (e - s).toNat (fun d hd => by have := List.all_eq_true.mp (dw_dig ⟨j, hj⟩) d hd; exact of_decide_eq_true this) hl
        have cj : cdL (wlL j) = wcd j := dw_cod ⟨j, hj⟩
        have lj : (wlL j).length = sLen.getD j 0 := dw_len ⟨j, hj⟩
        rw [cj, hw, wm_all, lj] at h1
        rw [y.2]
        show En T s (e - s).toNat = w ↔ _
        rw [h1]
        unfold lnJ
        constructor
        · rintro ⟨a1, a2⟩
          refine ⟨by omega, fun k b1 b2 => ?_⟩
          have := a2 k.toNat (by omega)
          rw [show ((k.toNat : Nat) : Int) = k by omega] at this
          rw [this]
          exact dw_chr ⟨j, hj⟩ ⟨k.toNat, by omega⟩ (by show k.toNat < sLen.getD j 0; omega)
        · rintro ⟨a1, a2⟩
          refine ⟨by omega, fun k b1 => ?_⟩
          rw [a2 (k : Int) (by omega) (by omega)]
          have := dw_chr ⟨j, hj⟩ ⟨k, by omega⟩ b1
          show chJ j (k : Int) = _
          unfold chJ
          rw [show ((k : Int)).toNat = k by omega]
          exact this.symm
      · constructor
        · intro v; omega
        · intro v; unfold lnJ at v; omega
    have wv : wl (m 167 11) = m 167 11 := by
      rcases q.1 with y | y
      · have h1 := En_in (T := T) (s := s) (e - s).toNat (fun i hi => q.2 _ (by omega) (by omega))
        have h2 := p12 ⟨(e - s).toNat, by omega⟩
        have h3 : (27 : Int) ^ (e - s).toNat ≤ 150094635296999121 := h2
        have h4 : m 167 11 = En T s (e - s).toNat := y.2
        exact wl_id (by omega)
      · rw [y.2]; exact wl_id (by omega)
    rw [if_pos z, wv, wl_id (show -9223372036854775808 ≤ w ∧ w < 9223372036854775808 by omega)]
    rcases c_isW hT hc hj (s := s) (e := e) (by omega) (by omega) ee.symm es.symm z with y | y
    · left
      rw [if_pos (key.mpr y.2)]
      exact ⟨y.1, rfl, z⟩
    · right
      rw [if_neg (fun v => y.2 (key.mp v))]
      exact ⟨y.1, rfl⟩
  · right
    rw [if_neg z]
    refine ⟨?_, rfl⟩
    unfold rd_isWord
    rw [w32 (show -1000000 ≤ c 1 6 ∧ c 1 6 ≤ 1000000 by omega), wr_one, if_neg z]
/-! both are good, both are bad -/
def Gd (T : Int → Int) (n : Int) (c m : Hp) : Prop := TxC T n c ∧ TxM T n m ∧ Tk T n 0 c m ∧ m 167 12 = 0 ∧ c 1 0 = 0 ∧ c 1 1 = -1
def Bd (c m : Hp) : Prop := m 167 12 = c 1 0 ∧ (1 ≤ c 1 0 ∧ c 1 0 ≤ 3) ∧ m 167 13 = c 1 1
def F2 (c c' : Hp) : Prop := ∀ a, a ≠ 1 → c' a = c a
def M2 (m m' : Hp) : Prop := (∀ a, a ≠ 167 → m' a = m a) ∧ ∀ j, (j < 7 ∨ 13 < j) → m' 167 j = m 167 j
theorem F2_tr {a b d : Hp} (h : F2 a b) (k : F2 b d) : F2 a d := fun x hx => (k x hx).trans (h x hx)
theorem M2_tr {a b d : Hp} (h : M2 a b) (k : M2 b d) : M2 a d := ⟨fun x hx => (k.1 x hx).trans (h.1 x hx), fun x hx => (k.2 x hx).trans (h.2 x hx)⟩
theorem F2_rfl (a : Hp) : F2 a a := fun _ _ => rfl
theorem M2_rfl (a : Hp) : M2 a a := ⟨fun _ _ => rfl, fun _ _ => rfl⟩
theorem FC_2 {a b : Hp} (h : FC a b) : F2 a b := h.1
theorem FM_2 {a b : Hp} (h : FM a b) : M2 a b := ⟨h.1, fun j hj => h.2 j (by omega)⟩
theorem Tk_0 {b : Int} (hb : 0 ≤ b) (h : Tk T n b c m) : Tk T n 0 c m ∧ b ≤ c 1 5 := by
  obtain ⟨k1, k2, k3, k4, k5⟩ := h
  exact ⟨⟨k1, k2, k3, ⟨by omega, k4.2⟩, k5⟩, k4.1⟩
theorem s_next (hT : TxT T n) (hG : Gd T n c m) : ∃ c' m', rd_step c = some c' ∧ md_next m = some m' ∧ Gd T n c' m' ∧ FC c c' ∧ FM m m' ∧ c 1 4 ≤ c' 1 5 := by
  obtain ⟨g1, g2, g3, g4, g5, g6⟩ := hG
  obtain ⟨k1, k2, k3, k4, k5⟩ := g3
  obtain ⟨c', m', e1, e2, f1, f2, t⟩ := s_step hT g1 g2 (b := c 1 4) (by omega) rfl k1.symm
  obtain ⟨t1, t2⟩ := Tk_0 (by omega) t
  exact ⟨c', m', e1, e2, ⟨TxC_f g1 f1, TxM_f g2 f2, t1, by rw [f2.2 12 (by omega)]; exact g4, by rw [f1.2 0 (by omega)]; exact g5, by rw [f1.2 1 (by omega)]; exact g6⟩, f1, f2, t2⟩
theorem Gd_8 {v : Int} (hG : Gd T n c m) : Gd T n (up c 1 8 v) m := by
  obtain ⟨g1, g2, g3, g4, g5, g6⟩ := hG
  refine ⟨⟨by rw [up_ni (by omega)]; exact g1.1, by rw [up_nk (by omega)]; exact g1.2⟩, g2, ?_, g4, by rw [up_ni (by omega)]; exact g5, by rw [up_ni (by omega)]; exact g6⟩
  unfold Tk at g3 ⊢
  rw [up_ni (by omega), up_ni (by omega), up_ni (by omega), up_ni (by omega)]
  exact g3
theorem Gd_6 (hG : Gd T n c m) : (0 ≤ c 1 6 ∧ c 1 6 ≤ 4) ∧ c 1 6 = m 167 8 ∧ (c 1 6 ≠ 0 → c 1 5 < c 1 4) ∧ (0 ≤ c 1 5 ∧ c 1 5 ≤ n) := by
  obtain ⟨g1, g2, ⟨k1, k2, k3, k4, k5, _⟩, g4, g5, g6⟩ := hG
  refine ⟨by rcases k5 with q | q <;> omega, k3, fun z => by rcases k5 with q | q <;> omega, by omega⟩
/-- both fail -/
theorem s_fail (hG : Gd T n c m) {v : Int} (hv : 1 ≤ v ∧ v ≤ 3) : ∃ c' m', rd_fail c v = some (0, c') ∧ md_fails m v = some m' ∧ Bd c' m' ∧ F2 c c' ∧ M2 m m' := by
  obtain ⟨g1, g2, ⟨k1, k2, k3, k4, k5, _⟩, g4, g5, g6⟩ := hG
  refine ⟨up (up c 1 0 v) 1 1 (c 1 5), up (up m 167 12 v) 167 13 (m 167 9), ?_, ?_, ⟨?_, ?_, ?_⟩, fun a ha => by rw [up_nk ha, up_nk ha], fun a ha => by rw [up_nk ha, up_nk ha], fun j hj => by rw [up_ni (by omega), up_ni (by omega)]⟩
  · unfold rd_fail
    rw [lt_eq, up_ni (by omega), lt_eq]
  · unfold md_fails
    rw [g4, if_pos (show wr 0 = 0 from rfl), lt_eq, up_ni (by omega), lt_eq]
  · rw [up_ni (by omega), up_eq, up_ni (by omega), up_eq]
  · rw [up_ni (by omega), up_eq]; exact hv
  · rw [up_eq, up_eq]; exact k2.symm
theorem s_takeW (hT : TxT T n) (hG : Gd T n c m) {j : Nat} (hj : j < 8) {w : Int} (hw : wcd j = w) : (∃ c' m', rd_takeWord c j = some (1, c') ∧ md_asks m w = some m' ∧ Gd T n c' m' ∧ F2 c c' ∧ M2 m m' ∧ c 1 5 < c' 1 5) ∨ (∃ c' m', rd_takeWord c j = some (0, c') ∧ md_asks m w = some m' ∧ Bd c' m' ∧ F2 c c' ∧ M2 m m') := by
  have n1 : ¬ wr 1 = 0 := by decide
  have n0 : wr 0 = 0 := rfl
  rcases s_isW hT hG.1 hG.2.2.1 hG.2.2.2.1 hj hw with y | y
  · left
    obtain ⟨c', m', e1, e2, g, f1, f2, t⟩ := s_next hT hG
    have := (Gd_6 hG).2.2.1 (by rw [y.2.2]; decide)
    refine ⟨c', m', ?_, ?_, g, FC_2 f1, FM_2 f2, by omega⟩
    · unfold rd_takeWord
      rw [y.1, bd_some, if_neg n1, e1, bd_some]
    · unfold md_asks md_takes
      rw [y.2.1, bd_some, if_neg n1, e2, bd_some, bd_some, if_neg n1, bd_some]
  · right
    obtain ⟨c', m', e1, e2, b, f1, f2⟩ := s_fail hG (v := 1) (by omega)
    refine ⟨c', m', ?_, ?_, b, f1, f2⟩
    · unfold rd_takeWord
      rw [y.1, bd_some, if_pos n0, e1, bd_some, chk_t (Or.inl rfl)]
    · unfold md_asks md_takes
      rw [y.2, bd_some, if_pos n0, bd_some, if_pos n0, e2, bd_some, bd_some]
theorem s_takeN (hT : TxT T n) (hG : Gd T n c m) {lo hi : Int} (hl : 0 ≤ lo ∧ lo ≤ 100) (hh : -1 ≤ hi ∧ hi ≤ 100) : (∃ c' m' v, rd_takeNumber c lo hi = some (1, c') ∧ md_number m lo hi = some (v, m') ∧ c' 1 8 = v ∧ (lo ≤ v ∧ v ≤ hi) ∧ Gd T n c' m' ∧ F2 c c' ∧ M2 m m' ∧ c 1 5 < c' 1 5) ∨ (∃ c' m', rd_takeNumber c lo hi = some (0, c') ∧ md_number m lo hi = some (lo, m') ∧ Bd c' m' ∧ F2 c c' ∧ M2 m m') := by
  have n1 : ¬ wr 1 = 0 := by decide
  have n0 : wr 0 = 0 := rfl
  obtain ⟨s6, e6, p6, _⟩ := Gd_6 hG
  have w2 : wr 2 = 2 := w32 (by omega)
  have eC : rd_takeNumber c lo hi = if c 1 6 = 2 then (if lo ≤ wr (c 1 7) then if hi < wr (c 1 7) then Option.bind (rd_fail c (2)) (fun r4 => chk ((r4.1 : Int) = 0 ∨ (r4.1 : Int) = 1) (some ((r4.1, r4.2)))) else Option.bind (rd_step (up c 1 8 (c 1 7))) (fun r7 => some ((1, r7))) else Option.bind (rd_fail c (2)) (fun r8 => chk ((r8.1 : Int) = 0 ∨ (r8.1 : Int) = 1) (some ((r8.1, r8.2))))) else Option.bind (rd_fail c (1)) (fun r10 => chk ((r10.1 : Int) = 0 ∨ (r10.1 : Int) = 1) (some ((r10.1, r10.2)))) := by
    unfold rd_takeNumber
    rw [w32 (show -1000000 ≤ c 1 6 ∧ c 1 6 ≤ 1000000 by omega), w2, w32 (show -1000000 ≤ lo ∧ lo ≤ 1000000 by omega), w32 (show -1000000 ≤ hi ∧ hi ≤ 1000000 by omega)]
    rfl
  have eM : md_number m lo hi = if c 1 6 = 2 then Option.bind (md_in m (wr (m 167 10)) lo hi) (fun r3 => if wr (r3) = 0 then Option.bind (md_fails m (2)) (fun r5 => some ((lo, r5))) else Option.bind (md_next m) (fun r6 => some ((m (167) 10, r6)))) else Option.bind (md_fails m (1)) (fun r7 => some ((lo, r7))) := by
    unfold md_number
    rw [hG.2.2.2.1, if_pos n0, ← e6, w32 (show -1000000 ≤ c 1 6 ∧ c 1 6 ≤ 1000000 by omega), w2, w32 (show -1000000 ≤ lo ∧ lo ≤ 1000000 by omega), w32 (show -1000000 ≤ hi ∧ hi ≤ 1000000 by omega)]
  rw [eC, eM]
  by_cases z : c 1 6 = 2
  · rw [if_pos z, if_pos z]
    have nu := hG.2.2.1.2.2.2.2.2.1 z
    have vi : 0 ≤ c 1 7 ∧ c 1 7 ≤ 1000 := by rcases nu with y | y <;> omega
    have wi : 0 ≤ m 167 10 ∧ m 167 10 ≤ 1000009 := by rcases nu with y | y <;> omega
    rw [w32 (show -1000000 ≤ c 1 7 ∧ c 1 7 ≤ 1000000 by omega), wr_id (show -2147483648 ≤ m 167 10 ∧ m 167 10 < 2147483648 by omega), m_in (by omega) (by omega) (by omega), bd_some]
    by_cases z2 : lo ≤ c 1 7 ∧ c 1 7 ≤ hi
    · left
      have eq : c 1 7 = m 167 10 := by rcases nu with y | y <;> omega
      obtain ⟨c', m', e1, e2, g, f1, f2, t⟩ := s_next hT (Gd_8 (v := c 1 7) hG)
      have := p6 (by omega)
      rw [up_ni (by omega)] at t
      refine ⟨c', m', m 167 10, ?_, ?_, ?_, by omega, g, ?_, FM_2 f2, by omega⟩
      · rw [if_pos z2.1, if_neg (by omega), e1, bd_some]
      · rw [bI_t (show lo ≤ m 167 10 ∧ m 167 10 ≤ hi by omega), if_neg n1, e2, bd_some]
      · rw [f1.2 8 (by omega), up_eq]; exact eq
      · intro a ha
        rw [f1.1 a ha, up_nk ha]
    · right
      obtain ⟨c', m', e1, e2, b, f1, f2⟩ := s_fail hG (v := 2) (by omega)
      refine ⟨c', m', ?_, ?_, b, f1, f2⟩
      · rw [e1, bd_some, chk_t (Or.inl rfl)]
        by_cases y : lo ≤ c 1 7
        · rw [if_pos y, if_pos (by omega)]
        · rw [if_neg y]
      · rw [bI_f (by rcases nu with y | y <;> omega), if_pos n0, e2, bd_some]
  · right
    rw [if_neg z, if_neg z]
    obtain ⟨c', m', e1, e2, b, f1, f2⟩ := s_fail hG (v := 1) (by omega)
    refine ⟨c', m', ?_, ?_, b, f1, f2⟩
    · rw [e1, bd_some, chk_t (Or.inl rfl)]
    · rw [e2, bd_some]
theorem s_sign (hT : TxT T n) (hG : Gd T n c m) : (∃ c' m', rd_takeSign c = some (1, c') ∧ md_ends m = some m' ∧ Gd T n c' m' ∧ F2 c c' ∧ M2 m m' ∧ c 1 5 < c' 1 5) ∨ (∃ c' m', rd_takeSign c = some (0, c') ∧ md_ends m = some m' ∧ Bd c' m' ∧ F2 c c' ∧ M2 m m') := by
  have n1 : ¬ wr 1 = 0 := by decide
  have n0 : wr 0 = 0 := rfl
  obtain ⟨s6, e6, p6, _⟩ := Gd_6 hG
  have w3 : wr 3 = 3 := w32 (by omega)
  unfold rd_takeSign md_ends
  rw [← e6, w32 (show -1000000 ≤ c 1 6 ∧ c 1 6 ≤ 1000000 by omega), w3]
  by_cases z : c 1 6 = 3
  · left
    obtain ⟨c', m', e1, e2, g, f1, f2, t⟩ := s_next hT hG
    have := p6 (by omega)
    refine ⟨c', m', ?_, ?_, g, FC_2 f1, FM_2 f2, by omega⟩
    · rw [if_pos z, e1, bd_some]
    · rw [if_pos z, bd_some, hG.2.2.2.1, if_pos n0, e2, bd_some, bd_some]
  · right
    obtain ⟨c', m', e1, e2, b, f1, f2⟩ := s_fail hG (v := 1) (by omega)
    refine ⟨c', m', ?_, ?_, b, f1, f2⟩
    · rw [if_neg z, e1, bd_some, chk_t (Or.inl rfl)]
    · have := b.1
      have := b.2.1
      rw [if_neg z, e2, bd_some, bd_some, w32 (show -1000000 ≤ m' 167 12 ∧ m' 167 12 ≤ 1000000 by omega), if_neg (by omega), bd_some]
/-! the model when it is bad -/
def Bm (m : Hp) : Prop := 1 ≤ m 167 12 ∧ m 167 12 ≤ 3
theorem Bm_0 (h : Bm m) : ¬ wr (m 167 12) = 0 := by
  obtain ⟨a, b⟩ := h
  rw [w32 (show -1000000 ≤ m 167 12 ∧ m 167 12 ≤ 1000000 by omega)]; omega
theorem b_is (h : Bm m) (w : Int) : md_is m w = some 0 := by rw [md_is_eq, if_neg (Bm_0 h)]
theorem b_asks (h : Bm m) (w : Int) : md_asks m w = some m := by
  unfold md_asks md_takes md_fails
  rw [b_is h, bd_some, if_pos (show wr 0 = 0 from rfl), bd_some, if_pos (show wr 0 = 0 from rfl), if_neg (Bm_0 h), bd_some, bd_some]
theorem b_num (h : Bm m) (lo hi : Int) : md_number m lo hi = some (lo, m) := by
  unfold md_number
  rw [if_neg (Bm_0 h)]
theorem b_num_ (h : Bm m) (w lo hi : Int) : md_number_ m w lo hi = some (lo, m) := by
  unfold md_number_
  rw [b_asks h, bd_some, b_num h, bd_some]
theorem Bd_m (h : Bd c m) : Bm m := by
  obtain ⟨a, b, d⟩ := h
  exact ⟨by omega, by omega⟩
theorem m_tlR (m : Hp) {i : Int} (hi : 0 ≤ i ∧ i < 6) (v : Int) : md_tells m i v = some (up m 174 (24 + i) v) := by
  unfold md_tells
  rw [w32 (show -1000000 ≤ 24 + i ∧ 24 + i ≤ 1000000 by omega), chk_t (by omega), lt_eq]
theorem m_hasR (m : Hp) {i : Int} (hi : 0 ≤ i ∧ i < 6) : md_hasRead m i = some (m 174 (24 + i)) := by
  unfold md_hasRead
  rw [w32 (show -1000000 ≤ 24 + i ∧ 24 + i ≤ 1000000 by omega), chk_t (by omega)]
/-- a word and a number -/
theorem s_wn (hT : TxT T n) (hG : Gd T n c m) {j : Nat} (hj : j < 8) {w : Int} (hw : wcd j = w) {lo hi : Int} (hl : 0 ≤ lo ∧ lo ≤ 100) (hh : -1 ≤ hi ∧ hi ≤ 100) : (∃ c1 c' m' v, rd_takeWord c j = some (1, c1) ∧ rd_takeNumber c1 lo hi = some (1, c') ∧ md_number_ m w lo hi = some (v, m') ∧ c' 1 8 = v ∧ (lo ≤ v ∧ v ≤ hi) ∧ Gd T n c' m' ∧ F2 c c' ∧ M2 m m' ∧ c 1 5 < c' 1 5) ∨ (∃ c' m', (rd_takeWord c j = some (0, c') ∨ ∃ c1, rd_takeWord c j = some (1, c1) ∧ rd_takeNumber c1 lo hi = some (0, c')) ∧ md_number_ m w lo hi = some (lo, m') ∧ Bd c' m' ∧ F2 c c' ∧ M2 m m') := by
  unfold md_number_
  rcases s_takeW hT hG hj hw with ⟨c1, m1, e1, e2, g, f1, f2, t⟩ | ⟨c', m', e1, e2, b, f1, f2⟩
  · rcases s_takeN hT g hl hh with ⟨c', m', v, e3, e4, k1, k2, g', f3, f4, t'⟩ | ⟨c', m', e3, e4, b, f3, f4⟩
    · left
      exact ⟨c1, c', m', v, e1, e3, by rw [e2, bd_some, e4, bd_some], k1, k2, g', F2_tr f1 f3, M2_tr f2 f4, by omega⟩
    · right
      exact ⟨c', m', Or.inr ⟨c1, e1, e3⟩, by rw [e2, bd_some, e4, bd_some], b, F2_tr f1 f3, M2_tr f2 f4⟩
  · right
    exact ⟨c', m', Or.inl e1, by rw [e2, bd_some, b_num (Bd_m b), bd_some], b, f1, f2⟩
end
