/-! Layer 2: spoons -/
def bT (h : Hp) : Int → Int := sT (bgS (h 9) (h 10))
theorem bT_in {h : Hp} (hI : INV h) (i : Int) : -9 ≤ bT h i ∧ bT h i ≤ 9 := (bgS_ok (INV_l hI)).1.2.2.2.2.1 i
theorem bT_eq {h : Hp} {i : Int} (hi : 0 ≤ i ∧ i < 30) : bT h i = h 10 i := by
  show (if 0 ≤ i ∧ i < 30 then h 10 i else 0) = _
  rw [if_pos hi]
def an (h : Hp) (p v : Int) : Int := fv (bT h) p (tb v) 5
theorem an_in (h : Hp) (p v : Int) : -1 ≤ an h p v ∧ an h p v < 5 := fv_in _ _ _ (by omega)
theorem m_likedT {t : Hp} {K : Int} {T : Int → Int} {p : Int} {c : Int → Bool} (hK : 0 ≤ K ∧ K ≤ 5) (c0 : t 174 0 = K) (hT : ∀ i, -9 ≤ T i ∧ T i ≤ 9) (hp : 0 ≤ p ∧ p < 6) (cT : ∀ k, 0 ≤ k → k < 5 → t 178 (p * 5 + k) = T (p * 5 + k)) (hc : ∀ k, K ≤ k → k < 5 → c k = false) : md_likedOf t p (bs c) = some (fv T p c 5) := by
  have mt : ∀ k, 0 ≤ k → k < 5 → md_tasteOf t p k = some (T (p * 5 + k)) := by
    intro k a b
    unfold md_tasteOf
    rw [show 5 * p + k = p * 5 + k by omega, w32 (show -1000000 ≤ p * 5 + k ∧ p * 5 + k ≤ 1000000 by omega), chk_t (by omega), cT k a b]
  rw [fv_ext T p c hK.1 hK.2 hc]
  unfold md_likedOf
  have hit := lp_fn (body := md_likedOf_b1 t p (bs c)) (s0 := (-1, 0)) (fun i => (fv T p c i, i)) K (fv T p c K) (by omega) (by omega) rfl (fun i a b => by
    have h1 := fv_in T p c a
    have h2 := hT (p * 5 + i)
    have h3 := hT (p * 5 + fv T p c i)
    have h4 := m_isBit t c (k := i) (by omega)
    rw [fv_succ T p c a]
    simp only [md_likedOf_b1, md_kindsAll, bd_some, c0, h4]
    rw [w32 (show -1000000 ≤ i ∧ i ≤ 1000000 by omega), w32 (show -1000000 ≤ K ∧ K ≤ 1000000 by omega), if_pos b, w32 (show -1000000 ≤ fv T p c i ∧ fv T p c i ≤ 1000000 by omega), show wr (-1) = -1 from rfl, wr_bt]
    cases c1 : c i
    · rw [if_pos (show bt false 1 = 0 from rfl), bd_some, if_neg (by simp)]
    · rw [if_neg (show ¬ bt true 1 = 0 by decide)]
      by_cases c2 : fv T p c i = -1
      · rw [if_pos c2, bd_some, if_pos ⟨rfl, Or.inl c2⟩]
      · rw [if_neg c2, mt i a (by omega), bd_some, mt (fv T p c i) (by omega) (by omega), bd_some, w32 (show -1000000 ≤ T (p * 5 + i) ∧ T (p * 5 + i) ≤ 1000000 by omega), w32 (show -1000000 ≤ T (p * 5 + fv T p c i) ∧ T (p * 5 + fv T p c i) ≤ 1000000 by omega)]
        by_cases c3 : T (p * 5 + fv T p c i) < T (p * 5 + i)
        · rw [if_pos c3, bd_some, if_pos ⟨rfl, Or.inr c3⟩]
        · rw [if_neg c3, bd_some, if_neg (by omega)]) (by
    simp only [md_likedOf_b1, md_kindsAll, bd_some, c0]
    rw [if_neg (by omega)])
  rw [hit]; rfl
/-- sets below 2 ^ K have no kind from K on -/
theorem dc_pow : ∀ K : Fin 6, ∀ v : Fin 32, (v : Nat) < 2 ^ (K : Nat) → ∀ k : Fin 6, (K : Nat) ≤ (k : Nat) → tb ((v : Nat) : Int) ((k : Nat) : Int) = false := by decide +kernel
theorem dc_shl : ∀ K : Fin 6, ishl 1 ((K : Nat) : Int) = ((2 ^ (K : Nat) : Nat) : Int) := by decide +kernel
theorem tb_out {K v k : Int} (hK : 0 ≤ K ∧ K ≤ 5) (hv : 0 ≤ v ∧ v < ishl 1 K) (hk : K ≤ k ∧ k < 6) : tb v k = false := by
  have e := dc_shl ⟨K.toNat, by omega⟩
  have pw := pow_in K hK.1 (by omega)
  dsimp only at e
  rw [show ((K.toNat : Nat) : Int) = K by omega] at e
  have := dc_pow ⟨K.toNat, by omega⟩ ⟨v.toNat, by omega⟩ (by dsimp only; omega) ⟨k.toNat, by omega⟩ (by dsimp only; omega)
  dsimp only at this
  rw [show ((v.toNat : Nat) : Int) = v by omega, show ((k.toNat : Nat) : Int) = k by omega] at this
  exact this
theorem m_likedV {h t : Hp} (hI : INV h) {p v : Int} (hp : 0 ≤ p ∧ p < h 9 5) (hv : 0 ≤ v ∧ v < ishl 1 (h 9 1)) (c0 : t 174 0 = h 9 1) (cT : ∀ i, 0 ≤ i → i < 5 * h 9 5 → t 178 i = bT h i) : md_likedOf t p v = some (an h p v) := by
  have lP := (INV_l hI).2.2.2.2.2.1
  have lK := (INV_l hI).2.1
  have pw := pow_in (h 9 1) lK.1 (by omega)
  have := m_likedT (T := bT h) (p := p) (c := tb v) lK c0 (bT_in hI) (by omega) (fun k a b => cT _ (by omega) (by omega)) (fun k a b => tb_out lK hv ⟨a, by omega⟩)
  rw [bs_tb (by omega)] at this
  exact this
/-! the class's table -/
theorem c_lay {h m : Hp} (hI : INV h) (hM : Mf h m) : ∃ m', sp_lay m 9 = some m' ∧ (∀ a, a ≠ 32 → a ≠ 33 → m' a = m a) ∧ m' 32 4 = h 9 5 ∧ m' 32 5 = h 9 1 ∧ m' 32 6 = ishl 1 (h 9 1) ∧ ∀ p v, 0 ≤ p → p < h 9 5 → 0 ≤ v → v < ishl 1 (h 9 1) → m' 33 (p * 32 + v) = an h p v := by
  have lP := (INV_l hI).2.2.2.2.2.1
  have lK := (INV_l hI).2.1
  have pw := pow_in (h 9 1) lK.1 (by omega)
  have wpw : wr (ishl 1 (h 9 1)) = ishl 1 (h 9 1) := wr_ishl _ _
  obtain ⟨G, eG⟩ : ∃ G, G = up (up (up m 32 4 (h 9 5)) 32 5 (h 9 1)) 32 6 (ishl 1 (h 9 1)) := ⟨_, rfl⟩
  have gf : ∀ a, a ≠ 32 → G a = m a := fun a ha => by rw [eG, up_nk ha, up_nk ha, up_nk ha]
  have g4 : G 32 4 = h 9 5 := by rw [eG, up_ni (by omega), up_ni (by omega), up_eq]
  have g5 : G 32 5 = h 9 1 := by rw [eG, up_ni (by omega), up_eq]
  have g6 : G 32 6 = ishl 1 (h 9 1) := by rw [eG, up_eq]
  have m10 : m 10 = h 10 := hM.2 10 (by omega) (by omega)
  obtain ⟨m', e, r1, r2⟩ := lp (body := sp_lay_b1 9) (s0 := (0, G)) (Q := fun r => (∀ a, a ≠ 33 → r a = G a) ∧ ∀ p v, 0 ≤ p → p < h 9 5 → 0 ≤ v → v < ishl 1 (h 9 1) → r 33 (p * 32 + v) = an h p v) (fun i s => s.1 = i ∧ (∀ a, a ≠ 33 → s.2 a = G a) ∧ ∀ p v, 0 ≤ p → p < i → 0 ≤ v → v < ishl 1 (h 9 1) → s.2 33 (p * 32 + v) = an h p v) (h 9 5) lP.1 (by omega) ⟨rfl, fun _ _ => rfl, fun p v a b => by omega⟩ (fun i s a b hi => by
    obtain ⟨p, g⟩ := s
    obtain ⟨q1, q2, q3⟩ := hi
    dsimp only at q1 q2 q3
    subst q1
    obtain ⟨g', e2, x1, x2, x3⟩ := lp (body := sp_lay_b2 9 (p, g)) (s0 := (0, g)) (Q := fun r => (∀ a, a ≠ 33 → r a = G a) ∧ (∀ v, 0 ≤ v → v < ishl 1 (h 9 1) → r 33 (p * 32 + v) = an h p v) ∧ ∀ j, (j < p * 32 ∨ p * 32 + 32 ≤ j) → r 33 j = g 33 j) (fun i s => s.1 = i ∧ (∀ a, a ≠ 33 → s.2 a = G a) ∧ (∀ v, 0 ≤ v → v < i → s.2 33 (p * 32 + v) = an h p v) ∧ ∀ j, (j < p * 32 ∨ p * 32 + 32 ≤ j) → s.2 33 j = g 33 j) (ishl 1 (h 9 1)) (by omega) (by omega) ⟨rfl, q2, fun v a b => by omega, fun _ _ => rfl⟩ (fun i s a' b' hi => by
      obtain ⟨v, k⟩ := s
      obtain ⟨y1, y2, y3, y4⟩ := hi
      dsimp only at y1 y2 y3 y4
      subst y1
      have k6 : k 32 6 = ishl 1 (h 9 1) := by rw [y2 32 (by omega)]; exact g6
      have fa := c_fav (h := k) (a := 10) (T := bT h) (bT_in hI) (p := p) (by omega) (fun i x y => by rw [y2 10 (by omega), gf 10 (by omega), m10, bT_eq (by omega)]) (tb v)
      rw [bs_tb (by omega)] at fa
      refine ⟨(v + 1, up k 33 (p * 32 + v) (an h p v)), ?_, rfl, fun a1 h1 => ?_, fun w h1 h2 => ?_, fun j h1 => ?_⟩
      · simp only [sp_lay_b2, k6]
        rw [wpw, w32 (show -1000000 ≤ v ∧ v ≤ 1000000 by omega), if_pos b', fa, bd_some, w32 (show -1000000 ≤ p * 32 + v ∧ p * 32 + v ≤ 1000000 by omega), chk_t (by omega), lt_eq]
        rfl
      · dsimp only; rw [up_nk h1]; exact y2 a1 h1
      · dsimp only
        by_cases z : w = v
        · rw [z, up_eq]
        · rw [up_ni (by omega)]; exact y3 w h1 (by omega)
      · dsimp only
        rw [up_ni (by omega)]; exact y4 j h1) (fun s hi => by
      obtain ⟨v, k⟩ := s
      obtain ⟨y1, y2, y3, y4⟩ := hi
      dsimp only at y1 y2 y3 y4
      subst y1
      have k6 : k 32 6 = ishl 1 (h 9 1) := by rw [y2 32 (by omega)]; exact g6
      refine ⟨k, ?_, y2, y3, y4⟩
      simp only [sp_lay_b2, k6]
      rw [if_neg (Int.lt_irrefl _)])
    have k4 : g 32 4 = h 9 5 := by rw [q2 32 (by omega)]; exact g4
    refine ⟨(p + 1, g'), ?_, rfl, x1, fun r v h1 h2 h3 h4 => ?_⟩
    · simp only [sp_lay_b1, k4]
      rw [w32 (show -1000000 ≤ p ∧ p ≤ 1000000 by omega), w32 (show -1000000 ≤ h 9 5 ∧ h 9 5 ≤ 1000000 by omega), if_pos b, e2, bd_some]
    · dsimp only
      by_cases z : r = p
      · rw [z]; exact x2 v h3 h4
      · rw [x3 _ (by omega)]; exact q3 r v h1 (by omega) h3 h4) (fun s hi => by
    obtain ⟨p, g⟩ := s
    obtain ⟨q1, q2, q3⟩ := hi
    dsimp only at q1 q2 q3
    subst q1
    have k4 : g 32 4 = h 9 5 := by rw [q2 32 (by omega)]; exact g4
    refine ⟨g, ?_, q2, q3⟩
    simp only [sp_lay_b1, k4]
    rw [if_neg (by omega)])
  refine ⟨m', ?_, fun a h1 h2 => by rw [r1 a h2, gf a h1], by rw [r1 32 (by omega)]; exact g4, by rw [r1 32 (by omega)]; exact g5, by rw [r1 32 (by omega)]; exact g6, r2⟩
  have x1 : up m 32 4 (m 9 5) 9 1 = h 9 1 := by rw [up_nk (by omega), Mf_9 hM]
  unfold sp_lay
  rw [lt_eq, lt_eq, x1, lt_eq, up_eq, Mf_9 hM, ← eG, e, bd_some]
/-! a slot's row -/
def Slo (h : Hp) (k : Nat) : Prop := h (55 + 2 * k) 0 = 1 ∧ (0 ≤ h (55 + 2 * k) 2 ∧ h (55 + 2 * k) 2 ≤ 60) ∧ h 169 k = h (55 + 2 * k) 2 ∧ (∀ j, 0 ≤ j → j < h (55 + 2 * k) 2 → h 170 (60 * (k : Int) + j) = h (55 + 2 * k + 1) j ∧ wl (h (55 + 2 * k + 1) j) = h (55 + 2 * k + 1) j)
def gdS (h : Hp) (k : Nat) (j : Int) : Bool := decide ((0 ≤ h (55 + 2 * k + 1) (2 * j) ∧ h (55 + 2 * k + 1) (2 * j) < h 9 5) ∧ (-1 ≤ h (55 + 2 * k + 1) (2 * j + 1) ∧ h (55 + 2 * k + 1) (2 * j + 1) < h 9 1))
def ftN (h : Hp) (k : Nat) (v : Int) : Nat → Bool
  | 0 => true
  | n + 1 => ftN h k v n && decide (an h (h (55 + 2 * k + 1) (2 * (n : Int))) v = h (55 + 2 * k + 1) (2 * (n : Int) + 1))
def ftI (h : Hp) (k : Nat) (v i : Int) : Bool := ftN h k v i.toNat
theorem ftI_succ (h : Hp) (k : Nat) (v : Int) {i : Int} (hi : 0 ≤ i) : ftI h k v (i + 1) = (ftI h k v i && decide (an h (h (55 + 2 * k + 1) (2 * i)) v = h (55 + 2 * k + 1) (2 * i + 1))) := by
  unfold ftI
  have e : (i + 1).toNat = i.toNat + 1 := by omega
  have e2 : ((i.toNat : Nat) : Int) = i := by omega
  rw [e, ftN, e2]
def fit (h : Hp) (k : Nat) (v : Int) : Bool := ftI h k v (h (55 + 2 * k) 2 / 2)
theorem ft_false {h : Hp} {k : Nat} {v : Int} {i n : Int} (hi : 0 ≤ i ∧ i < n) (hf : ¬ an h (h (55 + 2 * k + 1) (2 * i)) v = h (55 + 2 * k + 1) (2 * i + 1)) : ftI h k v n = false := by
  have := ind_to (P := fun j => ftI h k v (i + 1 + j) = false) (n := n - (i + 1)) (by rw [Int.add_zero, ftI_succ h k v hi.1, decide_eq_false hf, Bool.and_false]) (fun j a b d => by
    rw [← Int.add_assoc, ftI_succ h k v (show 0 ≤ i + 1 + j by omega), d, Bool.false_and]) (n - (i + 1)) (by omega) (by omega)
  rw [show i + 1 + (n - (i + 1)) = n by omega] at this
  exact this
theorem m_same {h m : Hp} {k : Nat} (hf : ∀ a, 55 ≤ a → a ≤ 62 → m a = h a) (hk : k < 4) : m (55 + 2 * k) = h (55 + 2 * k) ∧ m (55 + 2 * k + 1) = h (55 + 2 * k + 1) := ⟨hf _ (by omega) (by omega), hf _ (by omega) (by omega)⟩
theorem c_hearC {h : Hp} (hI : INV h) {k : Nat} (hk : k < 4) {a1 : Int} (ek : k = a1.toNat) (w1 : wr a1 = a1) (hS : Slo h k) (he : h (55 + 2 * k) 2 % 2 = 0) : ∃ r, iter FU (sf_hearSlot_b1 h a1) 0 = some r ∧ ((r = .inl () ∧ ∀ j, 0 ≤ j → j < h (55 + 2 * k) 2 / 2 → gdS h k j = true) ∨ (r = .inr (-2, h) ∧ ∃ j, 0 ≤ j ∧ j < h (55 + 2 * k) 2 / 2 ∧ gdS h k j = false)) := by
  have lP := (INV_l hI).2.2.2.2.2.1
  have lK := (INV_l hI).2.1
  obtain ⟨s1, s2, s3, s4⟩ := hS
  have wP : wl (wr (h 9 5)) = h 9 5 := by rw [w32 (by omega)]; exact wl_id (by omega)
  have wK : wl (wr (h 9 1)) = h 9 1 := by rw [w32 (by omega)]; exact wl_id (by omega)
  refine lp_ex (fun i s => s = 2 * i ∧ ∀ j, 0 ≤ j → j < i → gdS h k j = true) (h (55 + 2 * k) 2 / 2) (by omega) (by omega) ⟨by omega, fun j a b => by omega⟩ (fun i s a b hi => ?_) (fun s hi => ?_)
  · obtain ⟨q1, q2⟩ := hi
    subst q1
    have x1 := (s4 (2 * i) (by omega) (by omega)).2
    have x2 := (s4 (2 * i + 1) (by omega) (by omega)).2
    have eb : sf_hearSlot_b1 h a1 (2 * i) = if 0 ≤ h (55 + 2 * k + 1) (2 * i) then (if h (55 + 2 * k + 1) (2 * i) < h 9 5 then (if -1 ≤ h (55 + 2 * k + 1) (2 * i + 1) then (if h 9 1 ≤ h (55 + 2 * k + 1) (2 * i + 1) then some (.inr (.inr (-2, h))) else some (.inl (2 * i + 2))) else some (.inr (.inr (-2, h)))) else some (.inr (.inr (-2, h)))) else some (.inr (.inr (-2, h))) := by
      unfold sf_hearSlot_b1
      rw [w1, ← ek, w32 (show -1000000 ≤ 2 * i + 1 ∧ 2 * i + 1 ≤ 1000000 by omega), w32 (show -1000000 ≤ h (55 + 2 * k) 2 ∧ h (55 + 2 * k) 2 ≤ 1000000 by omega), if_pos (by omega), w32 (show -1000000 ≤ 2 * i ∧ 2 * i ≤ 1000000 by omega), chk_t (by omega), chk_t (by omega), x1, x2, wP, wK, show wl 0 = 0 from rfl, show wl (-1) = -1 from rfl]
    rw [eb]
    by_cases z : gdS h k i = true
    · have z' := of_decide_eq_true z
      rw [if_pos z'.1.1, if_pos z'.1.2, if_pos z'.2.1, if_neg (by omega)]
      refine Or.inl ⟨2 * i + 2, rfl, by omega, fun j x y => ?_⟩
      by_cases e : j = i
      · rw [e]; exact z
      · exact q2 j x (by omega)
    · have z' : ¬ ((0 ≤ h (55 + 2 * k + 1) (2 * i) ∧ h (55 + 2 * k + 1) (2 * i) < h 9 5) ∧ (-1 ≤ h (55 + 2 * k + 1) (2 * i + 1) ∧ h (55 + 2 * k + 1) (2 * i + 1) < h 9 1)) := fun y => z (decide_eq_true y)
      refine Or.inr ⟨.inr (-2, h), ?_, Or.inr ⟨rfl, i, a, b, by simpa using z⟩⟩
      by_cases y1 : 0 ≤ h (55 + 2 * k + 1) (2 * i)
      · rw [if_pos y1]
        by_cases y2 : h (55 + 2 * k + 1) (2 * i) < h 9 5
        · rw [if_pos y2]
          by_cases y3 : -1 ≤ h (55 + 2 * k + 1) (2 * i + 1)
          · rw [if_pos y3, if_pos (by omega)]
          · rw [if_neg y3]
        · rw [if_neg y2]
      · rw [if_neg y1]
  · obtain ⟨q1, q2⟩ := hi
    subst q1
    refine ⟨.inl (), ?_, Or.inl ⟨rfl, q2⟩⟩
    unfold sf_hearSlot_b1
    rw [w1, ← ek, w32 (show -1000000 ≤ 2 * (h (55 + 2 * k) 2 / 2) + 1 ∧ 2 * (h (55 + 2 * k) 2 / 2) + 1 ≤ 1000000 by omega), w32 (show -1000000 ≤ h (55 + 2 * k) 2 ∧ h (55 + 2 * k) 2 ≤ 1000000 by omega), if_neg (by omega)]
theorem m_whyC {h t : Hp} (hI : INV h) (hM : Mf h t) {k : Nat} (hk : k < 4) {a1 : Int} (e1 : (k : Int) = a1) (w1 : wr a1 = a1) (hS : Slo h k) (he : h (55 + 2 * k) 2 % 2 = 0) (t9 : t 169 = h 169) (t0 : t 170 = h 170) : ∃ r, iter FU (md_whyNot_b1 t a1) 0 = some r ∧ ((r = .inl () ∧ ∀ j, 0 ≤ j → j < h (55 + 2 * k) 2 / 2 → gdS h k j = true) ∨ (r = .inr (-2, t) ∧ ∃ j, 0 ≤ j ∧ j < h (55 + 2 * k) 2 / 2 ∧ gdS h k j = false)) := by
  have lP := (INV_l hI).2.2.2.2.2.1
  have lK := (INV_l hI).2.1
  obtain ⟨s1, s2, s3, s4⟩ := hS
  rw [e1] at s3 s4
  have tP : t 174 4 = h 9 5 := (Mf_n hM).2.2.2.2.1
  have tK : t 174 0 = h 9 1 := (Mf_n hM).1
  refine lp_ex (fun i s => s = 2 * i ∧ ∀ j, 0 ≤ j → j < i → gdS h k j = true) (h (55 + 2 * k) 2 / 2) (by omega) (by omega) ⟨by omega, fun j a b => by omega⟩ (fun i s a b hi => ?_) (fun s hi => ?_)
  · obtain ⟨q1, q2⟩ := hi
    subst q1
    have x1 := s4 (2 * i) (by omega) (by omega)
    have x2 := s4 (2 * i + 1) (by omega) (by omega)
    have y1 := wl_in (h (55 + 2 * k + 1) (2 * i))
    rw [x1.2] at y1
    have y2 := wl_in (h (55 + 2 * k + 1) (2 * i + 1))
    rw [x2.2] at y2
    rw [← Int.add_assoc] at x2
    have ip : md_isPerson t (h (55 + 2 * k + 1) (2 * i)) = some (bI (0 ≤ h (55 + 2 * k + 1) (2 * i) ∧ h (55 + 2 * k + 1) (2 * i) < h 9 5)) := by
      unfold md_isPerson md_people
      rw [bd_some, tP, wr_id (by omega), m_in (by omega) (by omega) (by omega), bd_some, chk_t (bI_01 _)]
      exact congrArg some (bI_iff (by omega))
    have ik := m_in (t := t) (a := h (55 + 2 * k + 1) (2 * i + 1)) (x := -1) (y := h 9 1 - 1) (by omega) (by omega) (by omega)
    have eb : md_whyNot_b1 t a1 (2 * i) = if wr (bI (0 ≤ h (55 + 2 * k + 1) (2 * i) ∧ h (55 + 2 * k + 1) (2 * i) < h 9 5)) = 0 then some (.inr (.inr (-2, t))) else if wr (bI (-1 ≤ h (55 + 2 * k + 1) (2 * i + 1) ∧ h (55 + 2 * k + 1) (2 * i + 1) ≤ h 9 1 - 1)) = 0 then some (.inr (.inr (-2, t))) else some (.inl (2 * i + 2)) := by
      unfold md_whyNot_b1 md_kindsAll
      rw [w1, chk_t (by omega), t9, t0, s3, w32 (show -1000000 ≤ 2 * i ∧ 2 * i ≤ 1000000 by omega), w32 (show -1000000 ≤ h (55 + 2 * k) 2 ∧ h (55 + 2 * k) 2 ≤ 1000000 by omega), if_pos (by omega), w32 (show -1000000 ≤ 60 * a1 + 2 * i ∧ 60 * a1 + 2 * i ≤ 1000000 by omega), chk_t (by omega), x1.1, ip, bd_some, w32 (show -1000000 ≤ 60 * a1 + 2 * i + 1 ∧ 60 * a1 + 2 * i + 1 ≤ 1000000 by omega), chk_t (by omega), bd_some, tK, w32 (show -1000000 ≤ h 9 1 ∧ h 9 1 ≤ 1000000 by omega), x2.1, ik, bd_some]
    rw [eb]
    have n1 : ¬ wr 1 = 0 := by decide
    have n0 : wr 0 = 0 := rfl
    by_cases z : gdS h k i = true
    · have z' := of_decide_eq_true z
      rw [bI_t z'.1, if_neg n1, bI_t (by omega), if_neg n1]
      refine Or.inl ⟨2 * i + 2, rfl, by omega, fun j x y => ?_⟩
      by_cases e : j = i
      · rw [e]; exact z
      · exact q2 j x (by omega)
    · have z' : ¬ ((0 ≤ h (55 + 2 * k + 1) (2 * i) ∧ h (55 + 2 * k + 1) (2 * i) < h 9 5) ∧ (-1 ≤ h (55 + 2 * k + 1) (2 * i + 1) ∧ h (55 + 2 * k + 1) (2 * i + 1) < h 9 1)) := fun y => z (decide_eq_true y)
      refine Or.inr ⟨.inr (-2, t), ?_, Or.inr ⟨rfl, i, a, b, by simpa using z⟩⟩
      by_cases y1 : 0 ≤ h (55 + 2 * k + 1) (2 * i) ∧ h (55 + 2 * k + 1) (2 * i) < h 9 5
      · rw [bI_t y1, if_neg n1, bI_f (by omega), if_pos n0]
      · rw [bI_f y1, if_pos n0]
  · obtain ⟨q1, q2⟩ := hi
    subst q1
    refine ⟨.inl (), ?_, Or.inl ⟨rfl, q2⟩⟩
    unfold md_whyNot_b1
    rw [w1, chk_t (by omega), t9, s3, w32 (show -1000000 ≤ 2 * (h (55 + 2 * k) 2 / 2) ∧ 2 * (h (55 + 2 * k) 2 / 2) ≤ 1000000 by omega), w32 (show -1000000 ≤ h (55 + 2 * k) 2 ∧ h (55 + 2 * k) 2 ≤ 1000000 by omega), if_neg (by omega)]
def ctF (h : Hp) (k : Nat) (i : Int) : Int := sm i (fun v => if fit h k v = true then 1 else 0)
/-- the table has heard the slot -/
def Tbl (h : Hp) (k : Nat) (m : Hp) : Prop := m 32 4 = h 9 5 ∧ m 32 6 = ishl 1 (h 9 1) ∧ (∀ p v, 0 ≤ p → p < h 9 5 → 0 ≤ v → v < ishl 1 (h 9 1) → m 33 (p * 32 + v) = an h p v) ∧ m 32 0 = ctF h k (ishl 1 (h 9 1)) ∧ ∀ v, 0 ≤ v → v < ishl 1 (h 9 1) → m 34 v = if fit h k v = true then 1 else 0
theorem c_hear2 {h g : Hp} (hI : INV h) {k : Nat} (hk : k < 4) (hS : Slo h k) (he : h (55 + 2 * k) 2 % 2 = 0) (hg : ∀ j, 0 ≤ j → j < h (55 + 2 * k) 2 / 2 → gdS h k j = true) (gk : g (55 + 2 * k) = h (55 + 2 * k) ∧ g (55 + 2 * k + 1) = h (55 + 2 * k + 1)) (g33 : ∀ p v, 0 ≤ p → p < h 9 5 → 0 ≤ v → v < ishl 1 (h 9 1) → g 33 (p * 32 + v) = an h p v) {v : Int} (hv : 0 ≤ v ∧ v < ishl 1 (h 9 1)) (g34 : g 34 v = 1) (z : Int × Hp) (hz : z.1 = v) : ∃ g', iter FU (sp_hear_b2 (55 + 2 * k) z) (0, g) = some g' ∧ (∀ a, a ≠ 34 → g' a = g a) ∧ (∀ j, j ≠ v → g' 34 j = g 34 j) ∧ g' 34 v = if fit h k v = true then 1 else 0 := by
  have lP := (INV_l hI).2.2.2.2.2.1
  have lK := (INV_l hI).2.1
  have pw := pow_in (h 9 1) lK.1 (by omega)
  obtain ⟨s1, s2, s3, s4⟩ := hS
  refine lp (fun i s => s.1 = 2 * i ∧ (∀ a, a ≠ 34 → s.2 a = g a) ∧ (∀ j, j ≠ v → s.2 34 j = g 34 j) ∧ s.2 34 v = if ftI h k v i = true then 1 else 0) (h (55 + 2 * k) 2 / 2) (by omega) (by omega) ⟨by dsimp only; omega, fun _ _ => rfl, fun _ _ => rfl, by dsimp only; rw [g34]; rfl⟩ (fun i s a b hi => ?_) (fun s hi => ?_)
  · obtain ⟨c, m⟩ := s
    obtain ⟨q1, q2, q3, q4⟩ := hi
    dsimp only at q1 q2 q3 q4
    subst q1
    have x2 := (s4 (2 * i + 1) (by omega) (by omega)).2
    have gd := of_decide_eq_true (hg i a b)
    have m1 : m (55 + 2 * k) = h (55 + 2 * k) := by rw [q2 _ (by omega)]; exact gk.1
    have m2 : m (55 + 2 * k + 1) = h (55 + 2 * k + 1) := by rw [q2 _ (by omega)]; exact gk.2
    have m3 : m 33 (h (55 + 2 * k + 1) (2 * i) * 32 + v) = an h (h (55 + 2 * k + 1) (2 * i)) v := by rw [q2 33 (by omega)]; exact g33 _ v gd.1.1 gd.1.2 hv.1 hv.2
    have ai := an_in h (h (55 + 2 * k + 1) (2 * i)) v
    have eb : sp_hear_b2 (55 + 2 * k) z (2 * i, m) = Option.bind (if an h (h (55 + 2 * k + 1) (2 * i)) v = h (55 + 2 * k + 1) (2 * i + 1) then some m else some (up m 34 v 0)) (fun s14 : Hp => some (.inl (2 * i + 2, s14))) := by
      simp only [sp_hear_b2, m1, m2, hz]
      rw [w32 (show -1000000 ≤ 2 * i + 1 ∧ 2 * i + 1 ≤ 1000000 by omega), w32 (show -1000000 ≤ h (55 + 2 * k) 2 ∧ h (55 + 2 * k) 2 ≤ 1000000 by omega), if_pos (by omega), w32 (show -1000000 ≤ 2 * i ∧ 2 * i ≤ 1000000 by omega), chk_t (by omega), w32 (show -1000000 ≤ h (55 + 2 * k + 1) (2 * i) * 32 + v ∧ h (55 + 2 * k + 1) (2 * i) * 32 + v ≤ 1000000 by omega), chk_t (by omega), chk_t (by omega), m3, w32 (show -1000000 ≤ an h (h (55 + 2 * k + 1) (2 * i)) v ∧ an h (h (55 + 2 * k + 1) (2 * i)) v ≤ 1000000 by omega), x2, wl_id (show -9223372036854775808 ≤ an h (h (55 + 2 * k + 1) (2 * i)) v ∧ an h (h (55 + 2 * k + 1) (2 * i)) v < 9223372036854775808 by omega), w32 (show -1000000 ≤ v ∧ v ≤ 1000000 by omega), chk_t (by omega), lt_eq]
    rw [eb, ftI_succ h k v a]
    by_cases y : an h (h (55 + 2 * k + 1) (2 * i)) v = h (55 + 2 * k + 1) (2 * i + 1)
    · rw [if_pos y, bd_some, decide_eq_true y, Bool.and_true]
      exact ⟨_, rfl, by dsimp only; omega, q2, q3, q4⟩
    · rw [if_neg y, bd_some, decide_eq_false y, Bool.and_false]
      refine ⟨_, rfl, by dsimp only; omega, fun a' h1 => ?_, fun j h1 => ?_, ?_⟩
      · dsimp only; rw [up_nk h1]; exact q2 a' h1
      · dsimp only; rw [up_ni h1]; exact q3 j h1
      · dsimp only; rw [up_eq]; rfl
  · obtain ⟨c, m⟩ := s
    obtain ⟨q1, q2, q3, q4⟩ := hi
    dsimp only at q1 q2 q3 q4
    subst q1
    have m1 : m (55 + 2 * k) = h (55 + 2 * k) := by rw [q2 _ (by omega)]; exact gk.1
    refine ⟨m, ?_, q2, q3, q4⟩
    simp only [sp_hear_b2, m1]
    rw [w32 (show -1000000 ≤ 2 * (h (55 + 2 * k) 2 / 2) + 1 ∧ 2 * (h (55 + 2 * k) 2 / 2) + 1 ≤ 1000000 by omega), w32 (show -1000000 ≤ h (55 + 2 * k) 2 ∧ h (55 + 2 * k) 2 ≤ 1000000 by omega), if_neg (by omega)]
theorem c_hearT {h m : Hp} (hI : INV h) (hM : Mf h m) (hf : ∀ a, 55 ≤ a → a ≤ 62 → m a = h a) {k : Nat} (hk : k < 4) (hS : Slo h k) (he : h (55 + 2 * k) 2 % 2 = 0) (hg : ∀ j, 0 ≤ j → j < h (55 + 2 * k) 2 / 2 → gdS h k j = true) : ∃ g m', sp_lay m 9 = some g ∧ sp_hear g (55 + 2 * k) = some m' ∧ Tbl h k m' ∧ Mf h m' ∧ ∀ a, (a < 32 ∨ 34 < a) → m' a = m a := by
  have lK := (INV_l hI).2.1
  have pw := pow_in (h 9 1) lK.1 (by omega)
  have wpw : wr (ishl 1 (h 9 1)) = ishl 1 (h 9 1) := wr_ishl _ _
  obtain ⟨g, e1, f1, g4, g5, g6, g33⟩ := c_lay hI hM
  obtain ⟨G, eG⟩ : ∃ G, G = up g 32 0 0 := ⟨_, rfl⟩
  have Gf : ∀ a, a ≠ 32 → G a = g a := fun a ha => by rw [eG, up_nk ha]
  obtain ⟨m', e2, r1, r2, r3, r4⟩ := lp (body := sp_hear_b1 (55 + 2 * k)) (s0 := (0, G)) (Q := fun r => (∀ a, a ≠ 32 → a ≠ 34 → r a = G a) ∧ (∀ j, j ≠ 0 → r 32 j = G 32 j) ∧ r 32 0 = ctF h k (ishl 1 (h 9 1)) ∧ ∀ v, 0 ≤ v → v < ishl 1 (h 9 1) → r 34 v = if fit h k v = true then 1 else 0) (fun i s => s.1 = i ∧ (∀ a, a ≠ 32 → a ≠ 34 → s.2 a = G a) ∧ (∀ j, j ≠ 0 → s.2 32 j = G 32 j) ∧ s.2 32 0 = ctF h k i ∧ ∀ v, 0 ≤ v → v < i → s.2 34 v = if fit h k v = true then 1 else 0) (ishl 1 (h 9 1)) (by omega) (by omega) ⟨rfl, fun _ _ _ => rfl, fun _ _ => rfl, by dsimp only; rw [eG, up_eq]; rfl, fun v a b => by omega⟩ (fun i s a b hi => by
    obtain ⟨v, q⟩ := s
    obtain ⟨q1, q2, q3, q4, q5⟩ := hi
    dsimp only at q1 q2 q3 q4 q5
    subst q1
    have k6 : q 32 6 = ishl 1 (h 9 1) := by rw [q3 6 (by omega), eG, up_ni (by omega)]; exact g6
    have qh : ∀ a, 55 ≤ a → a ≤ 62 → q a = h a := fun a x y => by rw [q2 a (by omega) (by omega), Gf a (by omega), f1 a (by omega) (by omega)]; exact hf a x y
    obtain ⟨q', e3, x1, x2, x3⟩ := c_hear2 (g := up q 34 v 1) hI hk hS he hg (by rw [up_nk (by omega), up_nk (by omega)]; exact ⟨qh _ (by omega) (by omega), qh _ (by omega) (by omega)⟩) (fun p w a1 a2 a3 a4 => by rw [up_nk (by omega), q2 33 (by omega) (by omega), Gf 33 (by omega)]; exact g33 p w a1 a2 a3 a4) ⟨a, b⟩ (up_eq ..) (v, q) rfl
    have q0 : q' 32 0 = ctF h k v := by rw [x1 32 (by omega), up_nk (by omega)]; exact q4
    have suc : ctF h k (v + 1) = ctF h k v + if fit h k v = true then 1 else 0 := sm_succ a _
    have eb : sp_hear_b1 (55 + 2 * k) (v, q) = Option.bind (if wr (if fit h k v = true then 1 else 0) = 0 then some q' else some (up q' 32 0 (ctF h k v + 1))) (fun s19 : Hp => some (.inl (v + 1, s19))) := by
      simp only [sp_hear_b1, k6]
      rw [wpw, w32 (show -1000000 ≤ v ∧ v ≤ 1000000 by omega), if_pos b, chk_t (by omega), lt_eq, e3, bd_some, chk_t (by omega), x3, lt_eq, q0]
    have ext : ∀ w, 0 ≤ w → w < v + 1 → q' 34 w = if fit h k w = true then 1 else 0 := by
      intro w h1 h2
      by_cases y : w = v
      · rw [y]; exact x3
      · rw [x2 w y, up_ni y]; exact q5 w h1 (by omega)
    rw [eb, suc]
    by_cases y : fit h k v = true
    · rw [if_pos y, if_neg (by decide), bd_some]
      refine ⟨_, rfl, rfl, fun a' h1 h2 => ?_, fun j h1 => ?_, ?_, fun w h1 h2 => ?_⟩
      · dsimp only; rw [up_nk h1, x1 a' h2, up_nk h2]; exact q2 a' h1 h2
      · dsimp only; rw [up_ni h1, x1 32 (by omega), up_nk (by omega)]; exact q3 j h1
      · dsimp only; rw [up_eq]
      · dsimp only; rw [up_nk (by omega)]; exact ext w h1 h2
    · rw [if_neg y, if_pos (show wr 0 = 0 from rfl), bd_some]
      refine ⟨_, rfl, rfl, fun a' h1 h2 => ?_, fun j h1 => ?_, ?_, ext⟩
      · dsimp only; rw [x1 a' h2, up_nk h2]; exact q2 a' h1 h2
      · dsimp only; rw [x1 32 (by omega), up_nk (by omega)]; exact q3 j h1
      · dsimp only; rw [q0, Int.add_zero]) (fun s hi => by
    obtain ⟨v, q⟩ := s
    obtain ⟨q1, q2, q3, q4, q5⟩ := hi
    dsimp only at q1 q2 q3 q4 q5
    subst q1
    have k6 : q 32 6 = ishl 1 (h 9 1) := by rw [q3 6 (by omega), eG, up_ni (by omega)]; exact g6
    refine ⟨q, ?_, q2, q3, q4, q5⟩
    simp only [sp_hear_b1, k6]
    rw [wpw, if_neg (by omega)])
  refine ⟨g, m', e1, ?_, ⟨?_, ?_, ?_, r3, r4⟩, ?_, fun a ha => by rw [r1 a (by omega) (by omega), Gf a (by omega), f1 a (by omega) (by omega)]⟩
  · unfold sp_hear
    rw [lt_eq, ← eG, e2, bd_some]
  · rw [r2 4 (by omega), eG, up_ni (by omega)]; exact g4
  · rw [r2 6 (by omega), eG, up_ni (by omega)]; exact g6
  · intro p v a1 a2 a3 a4
    rw [r1 33 (by omega) (by omega), Gf 33 (by omega)]; exact g33 p v a1 a2 a3 a4
  · exact Mf_fx hM ⟨fun a ha => by unfold scr at ha; rw [r1 a (by omega) (by omega), Gf a (by omega), f1 a (by omega) (by omega)], by rw [r1 167 (by omega) (by omega), Gf 167 (by omega), f1 167 (by omega) (by omega)], by rw [r1 167 (by omega) (by omega), Gf 167 (by omega), f1 167 (by omega) (by omega)], by rw [r1 167 (by omega) (by omega), Gf 167 (by omega), f1 167 (by omega) (by omega)]⟩
