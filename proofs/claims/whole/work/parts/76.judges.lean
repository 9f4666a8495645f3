/-! Layer 2: judges -/
def fa (h : Hp) (p : Int) : Int := an h p (ishl 1 (h 9 1) - 1)
def jG (h : Hp) (k : Int) : Int := fsI (fun p => decide (fa h p = k)) (h 9 5)
/-- a set of persons has one for each kind -/
def Cov (h : Hp) (c : Int → Bool) : Prop := ∀ k, 0 ≤ k → k < h 9 1 → ∃ p, 0 ≤ p ∧ p < h 9 5 ∧ c p = true ∧ fa h p = k
def jsI (h : Hp) (i : Int) : Int → Bool := fun p => decide ((0 ≤ fa h p ∧ fa h p < i) ∧ jG h (fa h p) = p)
theorem fs_F {c : Int → Bool} {n : Int} (hn : 0 ≤ n) : Fst c 0 n (fsI c n) := by
  have := fsN_F c n.toNat
  rw [show ((n.toNat : Nat) : Int) = n by omega] at this
  exact this
theorem jG_or {h : Hp} (hI : INV h) (k : Int) : (0 ≤ jG h k ∧ jG h k < h 9 5 ∧ fa h (jG h k) = k ∧ ∀ p, 0 ≤ p → p < h 9 5 → fa h p = k → jG h k ≤ p) ∨ (jG h k = -1 ∧ ∀ p, 0 ≤ p → p < h 9 5 → fa h p ≠ k) := by
  have lP := (INV_l hI).2.2.2.2.2.1
  rcases fs_F (c := fun p => decide (fa h p = k)) lP.1 with ⟨a1, a2, a3, a4⟩ | ⟨a1, a2⟩
  · refine Or.inl ⟨a1, a2, of_decide_eq_true a3, fun p x y z => ?_⟩
    by_cases q : p < jG h k
    · have := a4 p x q
      exact absurd z (of_decide_eq_false this)
    · omega
  · exact Or.inr ⟨a1, fun p x y => of_decide_eq_false (a2 p x y)⟩
theorem ab_all {h : Hp} (hI : INV h) {k : Int} (hk : 0 ≤ k ∧ k < 6) : tb (ishl 1 (h 9 1) - 1) k = decide (k < h 9 1) := by
  have lK := (INV_l hI).2.1
  have e := bs_shl1 (h 9 1) lK.1 (by omega)
  have b := bs_in (fun k => decide (k < h 9 1))
  have := bs_tb (v := ishl 1 (h 9 1) - 1) (by rw [e]; exact b)
  rw [e] at this
  have := bs_ext this k hk.1 hk.2
  rw [e]; exact this
/-- of a set that has it one grows what he'd grow of all -/
theorem an_has {h : Hp} (hI : INV h) {p v : Int} (hv : 0 ≤ v ∧ v < ishl 1 (h 9 1)) (h0 : fa h p ≠ -1) (ht : tb v (fa h p) = true) : an h p v = fa h p := by
  have lK := (INV_l hI).2.1
  refine fv_sub (by omega) (fun k a b z => ?_) h0 ht
  rw [ab_all hI (by omega)]
  by_cases y : k < h 9 1
  · exact decide_eq_true y
  · rw [tb_out lK hv ⟨by omega, by omega⟩] at z
    exact absurd z (by simp)
theorem an_in2 {h : Hp} {p v : Int} : an h p v = -1 ∨ tb v (an h p v) = true := fv_mem _ _ _ (by omega)
def Tells (h : Hp) (c : Int → Bool) : Prop := ∀ a b, 0 ≤ b → b < a → a < ishl 1 (h 9 1) → ∃ p, 0 ≤ p ∧ p < h 9 5 ∧ c p = true ∧ an h p a ≠ an h p b
theorem dc_dif : ∀ a b : Fin 64, a ≠ b → ∃ k : Fin 6, tb ((a : Nat) : Int) ((k : Nat) : Int) ≠ tb ((b : Nat) : Int) ((k : Nat) : Int) := by decide +kernel
theorem tells_iff {h : Hp} (hI : INV h) (c : Int → Bool) : Tells h c ↔ Cov h c := by
  have lK := (INV_l hI).2.1
  have pw := pow_in (h 9 1) lK.1 (by omega)
  constructor
  · intro hT k k0 k1
    -- all, and all without k
    obtain ⟨b, eb⟩ : ∃ b, b = bs (fun j => decide (j < h 9 1) && !(j == k)) := ⟨_, rfl⟩
    have e1 := bs_shl1 (h 9 1) lK.1 (by omega)
    have bi := bs_in (fun j => decide (j < h 9 1) && !(j == k))
    have le : b ≤ ishl 1 (h 9 1) - 1 := by
      rw [e1, eb]
      exact bs_mono (fun j _ _ z => by simp at z ⊢; exact z.1)
    have tbb : ∀ j, 0 ≤ j → j < 6 → tb b j = (decide (j < h 9 1) && !(j == k)) := by
      have := bs_tb (v := b) (by rw [eb]; exact bi)
      rw [eb] at this ⊢
      exact bs_ext this
    have ne : b ≠ ishl 1 (h 9 1) - 1 := by
      intro z
      have h1 := tbb k k0 (by omega)
      rw [z, ab_all hI (by omega), decide_eq_true k1] at h1
      simp at h1
    obtain ⟨p, p0, p1, p2, p3⟩ := hT (ishl 1 (h 9 1) - 1) b (by rw [eb]; exact bi.1) (by omega) (by omega)
    refine ⟨p, p0, p1, p2, ?_⟩
    have fi := an_in h p (ishl 1 (h 9 1) - 1)
    rcases an_in2 (h := h) (p := p) (v := ishl 1 (h 9 1) - 1) with z | z
    · exfalso
      rcases fv_spec (bT h) p (tb (ishl 1 (h 9 1) - 1)) (show (0 : Int) ≤ 5 by omega) with ⟨q1, _⟩ | ⟨_, q2⟩
      · have q1' : 0 ≤ an h p (ishl 1 (h 9 1) - 1) := q1
        omega
      · have := q2 k k0 (by omega)
        rw [ab_all hI (by omega), decide_eq_true k1] at this
        exact absurd this (by simp)
    · refine Classical.byContradiction (fun y => p3 ?_)
      have y' : an h p (ishl 1 (h 9 1) - 1) ≠ k := y
      have n1 : an h p (ishl 1 (h 9 1) - 1) ≠ -1 := by
        intro w
        rw [w] at z
        have : tb (ishl 1 (h 9 1) - 1) (-1) = tb (ishl 1 (h 9 1) - 1) 0 := rfl
        rcases fv_spec (bT h) p (tb (ishl 1 (h 9 1) - 1)) (show (0 : Int) ≤ 5 by omega) with ⟨q1, _⟩ | ⟨_, q2⟩
        · have q1' : 0 ≤ an h p (ishl 1 (h 9 1) - 1) := q1
          omega
        · have := q2 k k0 (by omega)
          rw [ab_all hI (by omega), decide_eq_true k1] at this
          exact absurd this (by simp)
      refine (an_has hI (v := b) ⟨by rw [eb]; exact bi.1, by omega⟩ n1 ?_).symm
      show tb b (an h p (ishl 1 (h 9 1) - 1)) = true
      rw [ab_all hI (by omega)] at z
      rw [tbb _ (by omega) (by omega), z]
      simp [y']
  · intro hC a b b0 ba aN
    obtain ⟨k, hk⟩ := dc_dif ⟨a.toNat, by omega⟩ ⟨b.toNat, by omega⟩ (by
      intro z
      have := congrArg (fun x : Fin 64 => x.val) z
      dsimp only at this
      omega)
    dsimp only at hk
    rw [show ((a.toNat : Nat) : Int) = a by omega, show ((b.toNat : Nat) : Int) = b by omega] at hk
    have k1 : ((k : Nat) : Int) < h 9 1 := by
      refine Classical.byContradiction (fun y => hk ?_)
      rw [tb_out lK ⟨by omega, aN⟩ ⟨by omega, by omega⟩, tb_out lK ⟨b0, by omega⟩ ⟨by omega, by omega⟩]
    obtain ⟨p, p0, p1, p2, p3⟩ := hC ((k : Nat) : Int) (by omega) k1
    refine ⟨p, p0, p1, p2, fun z => hk ?_⟩
    have n1 : fa h p ≠ -1 := by omega
    cases ha : tb a ((k : Nat) : Int)
    · cases hb : tb b ((k : Nat) : Int)
      · rfl
      · have e1 := an_has hI (p := p) (v := b) ⟨b0, by omega⟩ n1 (by rw [p3]; exact hb)
        rw [e1, p3] at z
        rcases an_in2 (h := h) (p := p) (v := a) with w | w
        · omega
        · rw [z, ha] at w; exact absurd w (by simp)
    · cases hb : tb b ((k : Nat) : Int)
      · have e1 := an_has hI (p := p) (v := a) ⟨by omega, aN⟩ n1 (by rw [p3]; exact ha)
        rw [e1, p3] at z
        rcases an_in2 (h := h) (p := p) (v := b) with w | w
        · omega
        · rw [← z, hb] at w; exact absurd w (by simp)
      · rfl
/-! sums over a set of persons -/
def pw2 (p : Int) : Int := ((2 ^ p.toNat : Nat) : Int)
theorem bs_sm (c : Int → Bool) : bs c = sm 6 (fun p => if c p = true then pw2 p else 0) := by
  show bs6 (c 0) (c 1) (c 2) (c 3) (c 4) (c 5) = 0 + (if c 0 = true then 1 else 0) + (if c 1 = true then 2 else 0) + (if c 2 = true then 4 else 0) + (if c 3 = true then 8 else 0) + (if c 4 = true then 16 else 0) + (if c 5 = true then 32 else 0)
  unfold bs6 bt
  omega
theorem ct_sm (c : Int → Bool) : ct c = sm 6 (fun p => if c p = true then 1 else 0) := by
  show bt (c 0) 1 + bt (c 1) 1 + bt (c 2) 1 + bt (c 3) 1 + bt (c 4) 1 + bt (c 5) 1 = 0 + (if c 0 = true then 1 else 0) + (if c 1 = true then 1 else 0) + (if c 2 = true then 1 else 0) + (if c 3 = true then 1 else 0) + (if c 4 = true then 1 else 0) + (if c 5 = true then 1 else 0)
  unfold bt
  omega
theorem sm_ge1 {n : Int} (hn : 0 ≤ n) {f : Int → Int} (hf : ∀ k, 0 ≤ k → k < n → 0 ≤ f k) {j : Int} (hj : 0 ≤ j ∧ j < n) : f j ≤ sm n f := by
  have h1 : sm n (fun k => if k = j then f k else 0) ≤ sm n f := sm_leF hn (fun k a b => by
    have := hf k a b
    split <;> omega)
  rw [sm_one hn j f, if_pos hj] at h1
  exact h1
theorem cov_ge {h : Hp} (hI : INV h) {c : Int → Bool} (hC : Cov h c) {w : Int → Int} (hw : ∀ p, 0 ≤ w p) (hm : ∀ p q, 0 ≤ p → p ≤ q → w p ≤ w q) : sm (h 9 1) (fun k => w (jG h k)) ≤ sm 6 (fun p => if c p = true then w p else 0) := by
  have lP := (INV_l hI).2.2.2.2.2.1
  have lK := (INV_l hI).2.1
  have h1 : sm 6 (fun p => sm (h 9 1) (fun k => if k = fa h p then (if c p = true then w p else 0) else 0)) ≤ sm 6 (fun p => if c p = true then w p else 0) := sm_leF (by omega) (fun p a b => by
    have := sm_one lK.1 (fa h p) (fun _ => if c p = true then w p else 0)
    rw [this]
    have := hw p
    split
    · omega
    · split <;> omega)
  rw [sm_swap (by omega) lK.1] at h1
  refine Int.le_trans (sm_leF lK.1 (fun k a b => ?_)) h1
  obtain ⟨p, p0, p1, p2, p3⟩ := hC k a b
  have h2 := sm_ge1 (n := 6) (by omega) (f := fun p => if k = fa h p then (if c p = true then w p else 0) else 0) (fun q _ _ => by
    have := hw q
    split
    · split <;> omega
    · omega) (j := p) (by omega)
  rw [if_pos p3.symm, if_pos p2] at h2
  rcases jG_or hI k with ⟨j0, j1, j2, j3⟩ | ⟨_, j1⟩
  · have := hm (jG h k) p j0 (j3 p p0 p1 p3)
    omega
  · exact absurd p3 (j1 p p0 p1)
theorem js_eq {h : Hp} (hI : INV h) (hJ : ∀ k, 0 ≤ k → k < h 9 1 → jG h k ≠ -1) {w : Int → Int} : sm 6 (fun p => if jsI h (h 9 1) p = true then w p else 0) = sm (h 9 1) (fun k => w (jG h k)) := by
  have lP := (INV_l hI).2.2.2.2.2.1
  have lK := (INV_l hI).2.1
  have h1 : sm 6 (fun p => if jsI h (h 9 1) p = true then w p else 0) = sm 6 (fun p => sm (h 9 1) (fun k => if p = jG h k then w p else 0)) := sm_congr (by omega) (fun p a b => by
    have e : sm (h 9 1) (fun k => if p = jG h k then w p else 0) = sm (h 9 1) (fun k => if k = fa h p then (if jG h k = p then w p else 0) else 0) := sm_congr lK.1 (fun k x y => by
      rcases jG_or hI k with ⟨j0, j1, j2, j3⟩ | ⟨j0, _⟩
      · by_cases z : p = jG h k
        · rw [if_pos z, if_pos (by rw [z]; exact j2.symm), if_pos z.symm]
        · rw [if_neg z]
          by_cases z2 : k = fa h p
          · rw [if_pos z2, if_neg (fun q => z q.symm)]
          · rw [if_neg z2]
      · exact absurd j0 (hJ k x y))
    rw [e, sm_one lK.1 (fa h p) (fun k => if jG h k = p then w p else 0)]
    unfold jsI
    by_cases z1 : 0 ≤ fa h p ∧ fa h p < h 9 1
    · rw [if_pos z1]
      by_cases z2 : jG h (fa h p) = p
      · rw [if_pos z2, if_pos (decide_eq_true ⟨z1, z2⟩)]
      · rw [if_neg z2, if_neg (by simp [z2])]
    · rw [if_neg z1, if_neg (fun q => z1 (of_decide_eq_true q).1)])
  rw [h1, sm_swap (by omega) lK.1]
  exact sm_congr lK.1 (fun k x y => by
    rw [sm_one (by omega) (jG h k) w, if_pos]
    rcases jG_or hI k with ⟨j0, j1, _⟩ | ⟨j0, _⟩
    · omega
    · exact absurd j0 (hJ k x y))
theorem pw2_nn (p : Int) : 0 ≤ pw2 p := Int.natCast_nonneg _
theorem pw2_m (p q : Int) (h0 : 0 ≤ p) (h1 : p ≤ q) : pw2 p ≤ pw2 q := by
  unfold pw2
  exact Int.ofNat_le.mpr (Nat.pow_le_pow_right (by omega) (by omega))
theorem js_cov {h : Hp} (hI : INV h) (hJ : ∀ k, 0 ≤ k → k < h 9 1 → jG h k ≠ -1) : Cov h (jsI h (h 9 1)) := by
  intro k a b
  rcases jG_or hI k with ⟨j0, j1, j2, _⟩ | ⟨j0, _⟩
  · refine ⟨jG h k, j0, j1, ?_, j2⟩
    unfold jsI
    rw [j2]
    exact decide_eq_true ⟨⟨a, b⟩, rfl⟩
  · exact absurd j0 (hJ k a b)
theorem cov_min {h : Hp} (hI : INV h) {c : Int → Bool} (hC : Cov h c) : bs (jsI h (h 9 1)) ≤ bs c ∧ ct (jsI h (h 9 1)) ≤ ct c := by
  have hJ : ∀ k, 0 ≤ k → k < h 9 1 → jG h k ≠ -1 := by
    intro k a b z
    obtain ⟨p, p0, p1, p2, p3⟩ := hC k a b
    rcases jG_or hI k with ⟨j0, _⟩ | ⟨_, j1⟩
    · omega
    · exact j1 p p0 p1 p3
  rw [bs_sm, bs_sm, ct_sm, ct_sm, js_eq hI hJ (w := pw2), js_eq hI hJ (w := fun _ => 1)]
  exact ⟨cov_ge hI hC pw2_nn pw2_m, cov_ge hI hC (w := fun _ => 1) (fun _ => by omega) (fun _ _ _ _ => by omega)⟩
/-! the class -/
theorem c_firstW {h m : Hp} (hI : INV h) (m4 : m 32 4 = h 9 5) (m6 : m 32 6 = ishl 1 (h 9 1)) (m33 : ∀ p v, 0 ≤ p → p < h 9 5 → 0 ≤ v → v < ishl 1 (h 9 1) → m 33 (p * 32 + v) = an h p v) {k : Int} (hk : 0 ≤ k ∧ k < 5) : sp_firstWith m k = some (jG h k) := by
  have lP := (INV_l hI).2.2.2.2.2.1
  have lK := (INV_l hI).2.1
  have pw := pow_in (h 9 1) lK.1 (by omega)
  obtain ⟨r, e, q⟩ := lp_ex (body := sp_firstWith_b1 m k) (s0 := 0) (Q := fun r => (r = .inl () ∧ jG h k = -1) ∨ (r = .inr (jG h k))) (fun i s => s = i ∧ ∀ j, 0 ≤ j → j < i → decide (fa h j = k) = false) (h 9 5) lP.1 (by omega) ⟨rfl, fun j a b => by omega⟩ (fun i s a b hi => by
    obtain ⟨q1, q2⟩ := hi
    subst q1
    have x := m33 s (ishl 1 (h 9 1) - 1) a b (by omega) (by omega)
    have fi := an_in h s (ishl 1 (h 9 1) - 1)
    have eb : sp_firstWith_b1 m k s = if fa h s = k then some (.inr (.inr s)) else some (.inl (s + 1)) := by
      simp only [sp_firstWith_b1, m4, m6]
      rw [show s * 32 + ishl 1 (h 9 1) - 1 = s * 32 + (ishl 1 (h 9 1) - 1) by omega, w32 (show -1000000 ≤ s ∧ s ≤ 1000000 by omega), w32 (show -1000000 ≤ h 9 5 ∧ h 9 5 ≤ 1000000 by omega), if_pos b, w32 (show -1000000 ≤ s * 32 + (ishl 1 (h 9 1) - 1) ∧ s * 32 + (ishl 1 (h 9 1) - 1) ≤ 1000000 by omega), chk_t (by omega), x, w32 (show -1000000 ≤ an h s (ishl 1 (h 9 1) - 1) ∧ an h s (ishl 1 (h 9 1) - 1) ≤ 1000000 by omega), w32 (show -1000000 ≤ k ∧ k ≤ 1000000 by omega)]
      rfl
    rw [eb]
    by_cases z : fa h s = k
    · rw [if_pos z]
      refine Or.inr ⟨_, rfl, Or.inr ?_⟩
      rw [show jG h k = s from (fs_eq lP.1 (Or.inl ⟨a, b, decide_eq_true z, q2⟩)).symm]
    · rw [if_neg z]
      refine Or.inl ⟨_, rfl, rfl, fun j x y => ?_⟩
      by_cases ej : j = s
      · rw [ej]; exact decide_eq_false z
      · exact q2 j x (by omega)) (fun s hi => by
    obtain ⟨q1, q2⟩ := hi
    subst q1
    refine ⟨.inl (), ?_, Or.inl ⟨rfl, (fs_eq lP.1 (Or.inr ⟨rfl, q2⟩)).symm⟩⟩
    simp only [sp_firstWith_b1, m4]
    rw [if_neg (Int.lt_irrefl _)])
  unfold sp_firstWith
  rw [e, bd_some]
  rcases q with ⟨z1, z2⟩ | z1
  · rw [z1, z2]
  · rw [z1]
theorem js_succ {h : Hp} (hI : INV h) {i : Int} (hi : 0 ≤ i ∧ i < h 9 1) (hj : jG h i ≠ -1) : ior (bs (jsI h i)) (ishl 1 (jG h i)) = bs (jsI h (i + 1)) := by
  have lP := (INV_l hI).2.2.2.2.2.1
  rcases jG_or hI i with ⟨j0, j1, j2, _⟩ | ⟨j0, _⟩
  · rw [bs_shl (jG h i) j0 (by omega), bs_ior]
    refine bs_congr (fun p a b => ?_)
    unfold jsI
    by_cases z : p = jG h i
    · rw [z, j2]
      simp
      omega
    · have e : (p == jG h i) = false := by simpa using z
      rw [e, Bool.or_false]
      by_cases y : (0 ≤ fa h p ∧ fa h p < i) ∧ jG h (fa h p) = p
      · rw [decide_eq_true y, decide_eq_true (by omega)]
      · rw [decide_eq_false y, decide_eq_false]
        intro q
        by_cases y2 : fa h p = i
        · rw [y2] at q; exact z q.2.symm
        · exact y ⟨by omega, q.2⟩
  · exact absurd j0 hj
theorem c_judges {h m : Hp} (hI : INV h) (m4 : m 32 4 = h 9 5) (m5 : m 32 5 = h 9 1) (m6 : m 32 6 = ishl 1 (h 9 1)) (m33 : ∀ p v, 0 ≤ p → p < h 9 5 → 0 ≤ v → v < ishl 1 (h 9 1) → m 33 (p * 32 + v) = an h p v) : ∃ r, sp_fewestJudges m = some r ∧ ((r = -1 ∧ ∃ k, 0 ≤ k ∧ k < h 9 1 ∧ jG h k = -1) ∨ (r = bs (jsI h (h 9 1)) ∧ ∀ k, 0 ≤ k → k < h 9 1 → jG h k ≠ -1)) := by
  have lP := (INV_l hI).2.2.2.2.2.1
  have lK := (INV_l hI).2.1
  obtain ⟨r, e, q⟩ := lp_ex (body := sp_fewestJudges_b1 m) (s0 := (0, 0)) (Q := fun r => (r = .inr (-1) ∧ ∃ k, 0 ≤ k ∧ k < h 9 1 ∧ jG h k = -1) ∨ (r = .inl (bs (jsI h (h 9 1))) ∧ ∀ k, 0 ≤ k → k < h 9 1 → jG h k ≠ -1)) (fun i s => s.1 = bs (jsI h i) ∧ s.2 = i ∧ ∀ k, 0 ≤ k → k < i → jG h k ≠ -1) (h 9 1) lK.1 (by omega) ⟨by
      dsimp only
      exact bs_zero.symm.trans (bs_congr (fun p _ _ => by
        show false = decide ((0 ≤ fa h p ∧ fa h p < 0) ∧ jG h (fa h p) = p)
        exact (decide_eq_false (fun z => by omega)).symm)), rfl, fun j a b => by omega⟩ (fun i s a b hi => by
    obtain ⟨v, k⟩ := s
    obtain ⟨q1, q2, q3⟩ := hi
    dsimp only at q1 q2 q3
    subst q2
    have ef := c_firstW hI m4 m6 m33 (k := k) (by omega)
    have ji : -1 ≤ jG h k ∧ jG h k ≤ 6 := by rcases jG_or hI k with ⟨j0, j1, _⟩ | ⟨j0, _⟩ <;> omega
    have eb : sp_fewestJudges_b1 m (v, k) = if jG h k = -1 then some (.inr (.inr (-1))) else some (.inl (ior v (ishl 1 (jG h k)), k + 1)) := by
      simp only [sp_fewestJudges_b1, m5, ef, bd_some]
      rw [w32 (show -1000000 ≤ k ∧ k ≤ 1000000 by omega), w32 (show -1000000 ≤ h 9 1 ∧ h 9 1 ≤ 1000000 by omega), if_pos b, w32 (show -1000000 ≤ jG h k ∧ jG h k ≤ 1000000 by omega), show wr (-1) = -1 from rfl]
    rw [eb]
    by_cases z : jG h k = -1
    · rw [if_pos z]
      exact Or.inr ⟨_, rfl, Or.inl ⟨rfl, k, a, b, z⟩⟩
    · rw [if_neg z]
      refine Or.inl ⟨_, rfl, ?_, rfl, fun j x y => ?_⟩
      · dsimp only
        rw [q1, js_succ hI ⟨a, b⟩ z]
      · by_cases ej : j = k
        · rw [ej]; exact z
        · exact q3 j x (by omega)) (fun s hi => by
    obtain ⟨v, k⟩ := s
    obtain ⟨q1, q2, q3⟩ := hi
    dsimp only at q1 q2 q3
    subst q2
    refine ⟨.inl v, ?_, Or.inr ⟨by rw [q1], q3⟩⟩
    simp only [sp_fewestJudges_b1, m5]
    rw [if_neg (Int.lt_irrefl _)])
  unfold sp_fewestJudges
  rw [e, bd_some]
  rcases q with ⟨z1, z2⟩ | ⟨z1, z2⟩
  · exact ⟨-1, by rw [z1], Or.inl ⟨rfl, z2⟩⟩
  · exact ⟨_, by rw [z1], Or.inr ⟨rfl, z2⟩⟩
/-! the model -/
theorem m_tells3 {h t : Hp} (hI : INV h) (hT : TT h t) {s a b : Int} (hs : 0 ≤ s ∧ s < 64) (ha : 0 ≤ a ∧ a < ishl 1 (h 9 1)) (hb : 0 ≤ b ∧ b < ishl 1 (h 9 1)) : ∃ r, iter FU (md_tellsAll_b3 t s a b) (0, 0) = some r ∧ ((r = 0 ∧ ∀ p, 0 ≤ p → p < h 9 5 → ¬ (tb s p = true ∧ an h p a ≠ an h p b)) ∨ (r = 1 ∧ ∃ p, 0 ≤ p ∧ p < h 9 5 ∧ tb s p = true ∧ an h p a ≠ an h p b)) := by
  have lP := (INV_l hI).2.2.2.2.2.1
  refine lp (fun i z => z.2 = i ∧ ((z.1 = 0 ∧ ∀ p, 0 ≤ p → p < i → ¬ (tb s p = true ∧ an h p a ≠ an h p b)) ∨ (z.1 = 1 ∧ ∃ p, 0 ≤ p ∧ p < i ∧ tb s p = true ∧ an h p a ≠ an h p b))) (h 9 5) lP.1 (by omega) ⟨rfl, Or.inl ⟨rfl, fun p x y => by omega⟩⟩ (fun i z x y hi => ?_) (fun z hi => ?_)
  · obtain ⟨d, p⟩ := z
    obtain ⟨q1, q2⟩ := hi
    dsimp only at q1 q2
    subst q1
    have hb1 := m_isBit t (tb s) (k := p) (by omega)
    rw [bs_tb hs] at hb1
    have e1 := m_likedV hI (p := p) ⟨x, y⟩ ha hT.1 hT.2.2
    have e2 := m_likedV hI (p := p) ⟨x, y⟩ hb hT.1 hT.2.2
    have a1 := an_in h p a
    have a2 := an_in h p b
    have eb : md_tellsAll_b3 t s a b (d, p) = Option.bind (if bt (tb s p) 1 = 0 then some 0 else if an h p a = an h p b then some 0 else some 1) (fun s14 : Int => some (.inl (ior d s14, p + 1))) := by
      simp only [md_tellsAll_b3, md_people, hT.2.1, bd_some, hb1, e1, e2]
      rw [w32 (show -1000000 ≤ p ∧ p ≤ 1000000 by omega), w32 (show -1000000 ≤ h 9 5 ∧ h 9 5 ≤ 1000000 by omega), if_pos y, wr_bt, w32 (show -1000000 ≤ an h p a ∧ an h p a ≤ 1000000 by omega), w32 (show -1000000 ≤ an h p b ∧ an h p b ≤ 1000000 by omega)]
    have no : ¬ (tb s p = true ∧ an h p a ≠ an h p b) → ∃ s', Option.bind (some (0 : Int)) (fun s14 : Int => some (Sum.inl (β := Int) (ior d s14, p + 1))) = some (.inl s') ∧ s'.2 = p + 1 ∧ ((s'.1 = 0 ∧ ∀ q, 0 ≤ q → q < p + 1 → ¬ (tb s q = true ∧ an h q a ≠ an h q b)) ∨ (s'.1 = 1 ∧ ∃ q, 0 ≤ q ∧ q < p + 1 ∧ tb s q = true ∧ an h q a ≠ an h q b)) := by
      intro z
      refine ⟨_, rfl, rfl, ?_⟩
      rcases q2 with ⟨u1, u2⟩ | ⟨u1, q, u2, u3, u4⟩
      · refine Or.inl ⟨by dsimp only; rw [u1]; decide, fun q v w => ?_⟩
        by_cases e : q = p
        · rw [e]; exact z
        · exact u2 q v (by omega)
      · exact Or.inr ⟨by dsimp only; rw [u1]; decide, q, u2, by omega, u4⟩
    rw [eb]
    cases hp : tb s p
    · rw [if_pos (show bt false 1 = 0 from rfl)]
      exact no (by rw [hp]; simp)
    · rw [if_neg (show ¬ bt true 1 = 0 by decide)]
      by_cases z : an h p a = an h p b
      · rw [if_pos z]
        exact no (fun w => w.2 z)
      · rw [if_neg z]
        refine ⟨_, rfl, rfl, Or.inr ⟨?_, p, x, by omega, hp, z⟩⟩
        dsimp only
        rcases q2 with ⟨u1, _⟩ | ⟨u1, _⟩ <;> (rw [u1]; decide)
  · obtain ⟨d, p⟩ := z
    obtain ⟨q1, q2⟩ := hi
    dsimp only at q1 q2
    subst q1
    refine ⟨d, ?_, q2⟩
    simp only [md_tellsAll_b3, md_people, hT.2.1, bd_some]
    rw [if_neg (Int.lt_irrefl _)]
theorem m_tells2 {h t : Hp} (hI : INV h) (hT : TT h t) {s a : Int} (hs : 0 ≤ s ∧ s < 64) (ha : 0 ≤ a ∧ a < ishl 1 (h 9 1)) : ∃ r, iter FU (md_tellsAll_b2 t s a) 0 = some r ∧ ((r = .inl () ∧ ∀ b, 0 ≤ b → b < a → ∃ p, 0 ≤ p ∧ p < h 9 5 ∧ tb s p = true ∧ an h p a ≠ an h p b) ∨ (r = .inr 0 ∧ ∃ b, 0 ≤ b ∧ b < a ∧ ∀ p, 0 ≤ p → p < h 9 5 → ¬ (tb s p = true ∧ an h p a ≠ an h p b))) := by
  have lK := (INV_l hI).2.1
  have pw := pow_in (h 9 1) lK.1 (by omega)
  refine lp_ex (fun i z => z = i ∧ ∀ b, 0 ≤ b → b < i → ∃ p, 0 ≤ p ∧ p < h 9 5 ∧ tb s p = true ∧ an h p a ≠ an h p b) a ha.1 (by omega) ⟨rfl, fun b x y => by omega⟩ (fun i z x y hi => ?_) (fun z hi => ?_)
  · obtain ⟨q1, q2⟩ := hi
    subst q1
    obtain ⟨r, e, q⟩ := m_tells3 hI hT hs ha (b := z) (by omega)
    unfold md_tellsAll_b2
    rw [w32 (show -1000000 ≤ z ∧ z ≤ 1000000 by omega), w32 (show -1000000 ≤ a ∧ a ≤ 1000000 by omega), if_pos y, e, bd_some]
    rcases q with ⟨u1, u2⟩ | ⟨u1, u2⟩
    · rw [u1, if_pos (show wr 0 = 0 from rfl)]
      exact Or.inr ⟨_, rfl, Or.inr ⟨rfl, z, x, y, u2⟩⟩
    · rw [u1, if_neg (by decide)]
      refine Or.inl ⟨_, rfl, rfl, fun b v w => ?_⟩
      by_cases e : b = z
      · rw [e]; exact u2
      · exact q2 b v (by omega)
  · obtain ⟨q1, q2⟩ := hi
    subst q1
    refine ⟨.inl (), ?_, Or.inl ⟨rfl, q2⟩⟩
    unfold md_tellsAll_b2
    rw [if_neg (Int.lt_irrefl _)]
theorem m_tells {h t : Hp} (hI : INV h) (hT : TT h t) {s : Int} (hs : 0 ≤ s ∧ s < 64) : ∃ r, md_tellsAll t s = some r ∧ ((r = 1 ∧ Tells h (tb s)) ∨ (r = 0 ∧ ¬ Tells h (tb s))) := by
  have lK := (INV_l hI).2.1
  have pw := pow_in (h 9 1) lK.1 (by omega)
  have wpw : wr (ishl 1 (h 9 1)) = ishl 1 (h 9 1) := wr_ishl _ _
  obtain ⟨r, e, q⟩ := lp_ex (body := md_tellsAll_b1 t s) (s0 := 0) (Q := fun r => (r = .inl () ∧ Tells h (tb s)) ∨ (r = .inr 0 ∧ ¬ Tells h (tb s))) (fun i z => z = i ∧ ∀ a b, 0 ≤ b → b < a → a < i → ∃ p, 0 ≤ p ∧ p < h 9 5 ∧ tb s p = true ∧ an h p a ≠ an h p b) (ishl 1 (h 9 1)) (by omega) (by omega) ⟨rfl, fun a b x y z => by omega⟩ (fun i z x y hi => by
    obtain ⟨q1, q2⟩ := hi
    subst q1
    obtain ⟨r, e, q⟩ := m_tells2 hI hT hs (a := z) ⟨x, y⟩
    unfold md_tellsAll_b1 md_kindsAll
    rw [bd_some, hT.1, wpw, w32 (show -1000000 ≤ z ∧ z ≤ 1000000 by omega), if_pos y, e, bd_some]
    rcases q with ⟨u1, u2⟩ | ⟨u1, b, u2, u3, u4⟩
    · rw [u1]
      refine Or.inl ⟨_, rfl, rfl, fun a b v w w2 => ?_⟩
      by_cases e : a = z
      · rw [e] at w ⊢; exact u2 b v w
      · exact q2 a b v w (by omega)
    · rw [u1]
      refine Or.inr ⟨_, rfl, Or.inr ⟨rfl, fun hT' => ?_⟩⟩
      obtain ⟨p, p0, p1, p2, p3⟩ := hT' z b u2 u3 y
      exact u4 p p0 p1 ⟨p2, p3⟩) (fun z hi => by
    obtain ⟨q1, q2⟩ := hi
    subst q1
    refine ⟨.inl (), ?_, Or.inl ⟨rfl, q2⟩⟩
    unfold md_tellsAll_b1 md_kindsAll
    rw [bd_some, hT.1, if_neg (Int.lt_irrefl _)])
  unfold md_tellsAll
  rw [e, bd_some]
  rcases q with ⟨z1, z2⟩ | ⟨z1, z2⟩
  · exact ⟨1, by rw [z1], Or.inl ⟨rfl, z2⟩⟩
  · exact ⟨0, by rw [z1], Or.inr ⟨rfl, z2⟩⟩
theorem pow_in6 : ∀ k : Int, 0 ≤ k → k < 7 → 1 ≤ ishl 1 k ∧ ishl 1 k ≤ 64 := by
  intro k a b
  by_cases z : k = 6
  · rw [z]; decide
  · have := pow_in k a (by omega); omega
theorem shl_all : ∀ k : Int, 0 ≤ k → k < 7 → ishl 1 k - 1 = bs (fun j => decide (j < k)) := by
  intro k a b
  by_cases z : k = 6
  · rw [z]; decide
  · exact bs_shl1 k a (by omega)
/-- model: the least that tells all -/
theorem m_judge2 {h t : Hp} (hI : INV h) (hT : TT h t) {f : Int} (hf : (f = -1 ∧ ∀ s, 0 ≤ s → s < ishl 1 (h 9 5) → ¬ Tells h (tb s)) ∨ (0 ≤ f ∧ f < ishl 1 (h 9 5) ∧ Tells h (tb f) ∧ ∀ s, 0 ≤ s → s < ishl 1 (h 9 5) → Tells h (tb s) → f ≤ s ∧ ct (tb f) ≤ ct (tb s))) : iter FU (md_judges_b2 t) (-1, 0) = some f := by
  have lP := (INV_l hI).2.2.2.2.2.1
  have pw := pow_in6 (h 9 5) lP.1 (by omega)
  have wpw : wr (ishl 1 (h 9 5)) = ishl 1 (h 9 5) := wr_ishl _ _
  obtain ⟨r, e, q⟩ := lp (body := md_judges_b2 t) (s0 := (-1, 0)) (Q := fun r => r = f) (fun i s => s.2 = i ∧ ((f = -1 ∨ i ≤ f) → s.1 = -1) ∧ ((0 ≤ f ∧ f < i) → s.1 = f)) (ishl 1 (h 9 5)) (by omega) (by omega) ⟨rfl, fun _ => rfl, fun x => by omega⟩ (fun i z x y hi => by
    obtain ⟨b, s⟩ := z
    obtain ⟨q1, q2, q3⟩ := hi
    dsimp only at q1 q2 q3
    subst q1
    obtain ⟨r, er, qr⟩ := m_tells hI hT (s := s) (by omega)
    have c1 := ct_in (tb s)
    have c2 := ct_in (tb b)
    have wrr : wr r = r := by rcases qr with ⟨u, _⟩ | ⟨u, _⟩ <;> (rw [u]; rfl)
    by_cases zb : b = -1
    · have eb : md_judges_b2 t (b, s) = Option.bind (if r = 0 then some b else some s) (fun s21 : Int => some (.inl (s21, s + 1))) := by
        simp only [md_judges_b2, md_people, hT.2.1, bd_some, er]
        rw [wpw, w32 (show -1000000 ≤ s ∧ s ≤ 1000000 by omega), if_pos y, zb, if_pos rfl, wrr]
      rw [eb]
      rcases qr with ⟨u1, u2⟩ | ⟨u1, u2⟩
      · rw [if_neg (by omega), bd_some]
        refine ⟨_, rfl, rfl, fun v => ?_, fun v => ?_⟩
        · rcases hf with ⟨_, w⟩ | ⟨w1, w2, w3, w4⟩
          · exact absurd u2 (w s x y)
          · have := w4 s x y u2; omega
        · rcases hf with ⟨_, w⟩ | ⟨w1, w2, w3, w4⟩
          · omega
          · have := w4 s x y u2
            dsimp only; omega
      · rw [if_pos u1, bd_some]
        refine ⟨_, rfl, rfl, fun v => zb, fun v => ?_⟩
        by_cases e : f = s
        · rcases hf with ⟨_, w⟩ | ⟨w1, w2, w3, w4⟩
          · omega
          · rw [e] at w3; exact absurd w3 u2
        · exact q3 ⟨v.1, by omega⟩
    · have bf : b = f := by
        rcases hf with ⟨w, _⟩ | ⟨w1, _⟩
        · exact absurd (q2 (Or.inl w)) zb
        · by_cases v : f < s
          · exact q3 ⟨w1, v⟩
          · exact absurd (q2 (Or.inr (by omega))) zb
      obtain ⟨w1, w2, w3, w4⟩ : 0 ≤ f ∧ f < ishl 1 (h 9 5) ∧ Tells h (tb f) ∧ ∀ s, 0 ≤ s → s < ishl 1 (h 9 5) → Tells h (tb s) → f ≤ s ∧ ct (tb f) ≤ ct (tb s) := by
        rcases hf with ⟨w, _⟩ | w
        · omega
        · exact w
      have fs : f < s := by
        refine Classical.byContradiction (fun v => zb (q2 (Or.inr (by omega))))
      have eb : md_judges_b2 t (b, s) = Option.bind (if ct (tb s) < ct (tb b) then (if r = 0 then some b else some s) else some b) (fun s21 : Int => some (.inl (s21, s + 1))) := by
        simp only [md_judges_b2, md_people, hT.2.1, bd_some, er, tb_siz t (v := s) (by omega), tb_siz t (v := b) (by omega)]
        rw [wpw, w32 (show -1000000 ≤ s ∧ s ≤ 1000000 by omega), if_pos y, w32 (show -1000000 ≤ b ∧ b ≤ 1000000 by omega), show wr (-1) = -1 from rfl, if_neg zb, wrr, w32 (show -1000000 ≤ ct (tb s) ∧ ct (tb s) ≤ 1000000 by omega), w32 (show -1000000 ≤ ct (tb b) ∧ ct (tb b) ≤ 1000000 by omega)]
      rw [eb]
      refine ⟨(b, s + 1), ?_, rfl, fun v => by omega, fun v => bf⟩
      by_cases v : ct (tb s) < ct (tb b)
      · rcases qr with ⟨u1, u2⟩ | ⟨u1, u2⟩
        · have := w4 s x y u2
          rw [bf] at v
          omega
        · rw [if_pos v, if_pos u1, bd_some]
      · rw [if_neg v, bd_some]) (fun z hi => by
    obtain ⟨b, s⟩ := z
    obtain ⟨q1, q2, q3⟩ := hi
    dsimp only at q1 q2 q3
    subst q1
    refine ⟨b, ?_, ?_⟩
    · simp only [md_judges_b2, md_people, hT.2.1, bd_some]
      rw [if_neg (Int.lt_irrefl _)]
    · rcases hf with ⟨w, _⟩ | ⟨w1, w2, _⟩
      · rw [w]; exact q2 (Or.inl w)
      · exact q3 ⟨w1, w2⟩)
  rw [e, q]
theorem st_judges : St_judges INV := by
  intro h hI
  have n1 : ¬ wr 1 = 0 := by decide
  have n0 : wr 0 = 0 := rfl
  have tc := th_cond hI
  have lP := (INV_l hI).2.2.2.2.2.1
  by_cases g : h 9 0 = 1
  · obtain ⟨m, e1, f1, m4, m5, m6, m33⟩ := c_lay hI (Mf_rfl hI)
    obtain ⟨r, e2, q⟩ := c_judges hI m4 m5 m6 m33
    have hM : Mf h m := Mf_fx (Mf_rfl hI) ⟨fun a ha => by unfold scr at ha; rw [f1 a (by omega) (by omega)], by rw [f1 167 (by omega) (by omega)], by rw [f1 167 (by omega) (by omega)], by rw [f1 167 (by omega) (by omega)]⟩
    have m0 : Mf h (up m 167 0 0) := Mf_up hM (by omega) (by omega) (by omega)
    obtain ⟨u, y1, y2, y3⟩ := m_told m0 (B := md_judges_b1) (fun c m a b => by
      unfold md_judges_b1
      dsimp only
      rw [w32 (show -1000000 ≤ c ∧ c ≤ 1000000 by omega), show wr 30 = 30 from rfl, if_pos b, chk_t (by omega), chk_t (by omega), lt_eq]) (fun m => by
      unfold md_judges_b1
      dsimp only
      rw [if_neg (by decide)])
    obtain ⟨uT, uM⟩ := m_TT hI m0 y2 y3
    have pw := pow_in6 (h 9 5) lP.1 (by omega)
    have e3 := m_judge2 (f := r) hI uT (by
      rcases q with ⟨z1, k, k0, k1, k2⟩ | ⟨z1, z2⟩
      · refine Or.inl ⟨z1, fun s _ _ hT' => ?_⟩
        obtain ⟨p, p0, p1, p2, p3⟩ := (tells_iff hI _).mp hT' k k0 k1
        rcases jG_or hI k with ⟨j0, _⟩ | ⟨_, j1⟩
        · omega
        · exact j1 p p0 p1 p3
      · have jb := bs_in (jsI h (h 9 1))
        have je : ∀ p, 0 ≤ p → p < 6 → tb (bs (jsI h (h 9 1))) p = jsI h (h 9 1) p := bs_ext (bs_tb jb)
        have jc := js_cov hI z2
        have jct : ct (tb (bs (jsI h (h 9 1)))) = ct (jsI h (h 9 1)) := by
          unfold ct
          rw [je 0 (by omega) (by omega), je 1 (by omega) (by omega), je 2 (by omega) (by omega), je 3 (by omega) (by omega), je 4 (by omega) (by omega), je 5 (by omega) (by omega)]
        refine Or.inr ⟨by rw [z1]; exact jb.1, ?_, ?_, fun s s0 s1 s2 => ?_⟩
        · have h1 : bs (jsI h (h 9 1)) ≤ bs (fun j => decide (j < h 9 5)) := bs_mono (fun p a b z => by
            have z' := (of_decide_eq_true z)
            rcases jG_or hI (fa h p) with ⟨j0, j1, _⟩ | ⟨j0, _⟩
            · simp; omega
            · exact absurd j0 (z2 _ z'.1.1 z'.1.2))
          rw [← shl_all (h 9 5) lP.1 (by omega)] at h1
          rw [z1]; omega
        · rw [z1]
          refine (tells_iff hI _).mpr (fun k a b => ?_)
          obtain ⟨p, p0, p1, p2, p3⟩ := jc k a b
          exact ⟨p, p0, p1, by rw [je p p0 (by omega)]; exact p2, p3⟩
        · have := cov_min hI ((tells_iff hI _).mp s2)
          rw [bs_tb (by omega)] at this
          rw [z1, jct]
          exact this)
    refine ⟨r, m, r, u, ?_, ?_, rfl, uM.1⟩
    · unfold sf_judges
      rw [if_neg (by rw [tc]; simp [g]), e1, bd_some, e2, bd_some]
    · unfold md_judges
      rw [lt_eq, Mf_isF hI m0, bd_some, bI_t g, if_neg n1, y1, bd_some, e3, bd_some]
  · have m0 : Mf h (up h 167 0 0) := Mf_self hI
    refine ⟨-2, h, -2, up h 167 0 0, ?_, ?_, rfl, m0.1⟩
    · unfold sf_judges; rw [if_pos (by rw [tc]; exact g)]
    · unfold md_judges
      rw [lt_eq, Mf_isF hI m0, bd_some, bI_f g, if_pos n0]
