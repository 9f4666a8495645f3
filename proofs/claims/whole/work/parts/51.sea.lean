/-! Layer 2: a season as numbers and rows; what the class reads off it -/
abbrev Sn : Type := Int × Int × Int × Int × (Int → Int) × (Int → Int) × (Int → Int) × (Int → Int → Bool)
def sK (S : Sn) : Int := S.1
def sL (S : Sn) : Int := S.2.1
def sP (S : Sn) : Int := S.2.2.1
def sN (S : Sn) : Int := S.2.2.2.1
def sT (S : Sn) : Int → Int := S.2.2.2.2.1
def sR (S : Sn) : Int → Int := S.2.2.2.2.2.1
def sQ (S : Sn) : Int → Int := S.2.2.2.2.2.2.1
def sH (S : Sn) : Int → Int → Bool := S.2.2.2.2.2.2.2
def WF (S : Sn) : Prop := (0 ≤ sK S ∧ sK S ≤ 5) ∧ (0 ≤ sL S ∧ sL S ≤ 3) ∧ (0 ≤ sP S ∧ sP S ≤ 6) ∧ (0 ≤ sN S ∧ sN S ≤ sP S) ∧ (∀ i, -9 ≤ sT S i ∧ sT S i ≤ 9) ∧ (∀ x, 0 ≤ x → x < sN S → 0 ≤ sR S x ∧ sR S x < sP S ∧ sQ S (sR S x) = x)
def Full (S : Sn) : Prop := sN S = sP S ∧ ∀ p, 0 ≤ p → p < sP S → 0 ≤ sQ S p ∧ sQ S p < sP S ∧ sR S (sQ S p) = p
def hatS (S : Sn) (p : Int) : Int → Bool := upto (sK S) (fun k => decide (sT S (p * 5 + k) < 0))
def lovS (S : Sn) (p : Int) : Int → Bool := upto (sK S) (fun k => decide (0 < sT S (p * 5 + k)))
def opS (S : Sn) (p : Int) : Int → Bool := fun k => hatS S p k && !(sH S p k)
/-- who decides at a plot of a row -/
def dcR (R : Int → Int) (n L x : Int) : Int := if x + 1 < n then R (x + 1) else if L = 2 then R 0 else if L = 3 ∧ 1 < n then R (n - 2) else -1
def dpS (S : Sn) (p : Int) : Int := dcR (sR S) (sN S) (sL S) (sQ S p)
def alS (S : Sn) (who : Int) : Int → Bool := if who = -1 then (if sL S = 1 then fun k => decide (k < sK S) else fun _ => false) else opS S who
def fvN (T : Int → Int) (p : Int) (c : Int → Bool) : Nat → Int
  | 0 => -1
  | n + 1 => if c (n : Int) = true ∧ (fvN T p c n = -1 ∨ T (p * 5 + fvN T p c n) < T (p * 5 + (n : Int))) then (n : Int) else fvN T p c n
def fv (T : Int → Int) (p : Int) (c : Int → Bool) (n : Int) : Int := fvN T p c n.toNat
theorem fv_zero (T : Int → Int) (p : Int) (c : Int → Bool) : fv T p c 0 = -1 := rfl
theorem fv_succ (T : Int → Int) (p : Int) (c : Int → Bool) {i : Int} (h : 0 ≤ i) : fv T p c (i + 1) = if c i = true ∧ (fv T p c i = -1 ∨ T (p * 5 + fv T p c i) < T (p * 5 + i)) then i else fv T p c i := by
  unfold fv
  have e : (i + 1).toNat = i.toNat + 1 := by omega
  have e2 : ((i.toNat : Nat) : Int) = i := by omega
  rw [e, fvN, e2]
theorem fv_in (T : Int → Int) (p : Int) (c : Int → Bool) {n : Int} (hn : 0 ≤ n) : -1 ≤ fv T p c n ∧ fv T p c n < n :=
  ind_to (P := fun i => -1 ≤ fv T p c i ∧ fv T p c i < i) (n := n) (by rw [fv_zero]; omega) (fun i a b d => by
    rw [fv_succ T p c a]; split <;> omega) n hn (by omega)
theorem fv_mem (T : Int → Int) (p : Int) (c : Int → Bool) {n : Int} (hn : 0 ≤ n) : fv T p c n = -1 ∨ c (fv T p c n) = true :=
  ind_to (P := fun i => fv T p c i = -1 ∨ c (fv T p c i) = true) (n := n) (Or.inl (fv_zero T p c)) (fun i a b d => by
    rw [fv_succ T p c a]
    split
    · rename_i g; exact Or.inr g.1
    · exact d) n hn (by omega)
theorem fv_ext (T : Int → Int) (p : Int) (c : Int → Bool) {m : Int} (hm : 0 ≤ m) {n : Int} (hn : m ≤ n) (hc : ∀ k, m ≤ k → k < n → c k = false) : fv T p c n = fv T p c m := by
  have := ind_to (P := fun i => m ≤ i → fv T p c i = fv T p c m) (n := n) (fun h => by
    have e : m = 0 := by omega
    rw [e]) (fun i a b d h => by
    by_cases e : m = i + 1
    · rw [e]
    · rw [fv_succ T p c a, if_neg (by rw [hc i (by omega) b]; simp)]
      exact d (by omega)) n (by omega) (by omega)
  exact this hn
theorem fv_congr {T U : Int → Int} {p : Int} {c d : Int → Bool} {n : Int} (hn : 0 ≤ n) (hT : ∀ k, 0 ≤ k → k < n → T (p * 5 + k) = U (p * 5 + k)) (hc : ∀ k, 0 ≤ k → k < n → c k = d k) : fv T p c n = fv U p d n :=
  ind_to (P := fun i => fv T p c i = fv U p d i) (n := n) rfl (fun i a b e => by
    rw [fv_succ T p c a, fv_succ U p d a, hc i a b, e]
    by_cases g : fv U p d i = -1
    · simp only [g, true_or]
    · have := fv_in U p d a
      rw [hT i a b, hT (fv U p d i) (by omega) (by omega)]) n hn (by omega)
def guS (S : Sn) (p who : Int) : Int := fv (sT S) p (alS S who) 5
def grS (S : Sn) (p : Int) : Int := guS S p (dpS S p)
def taS (S : Sn) (p k : Int) : Int := if k = -1 then 0 else sT S (p * 5 + k)
def stS (S : Sn) (p who k : Int) : Int := if who = -1 ∨ who = p then 0 else if taS S who k < 0 then - taS S who k else 0
def snS (S : Sn) (p : Int) : Int := sm (sP S) (fun q => if dpS S q = p then stS S q p (grS S q) else 0)
def joS (S : Sn) (p : Int) : Int := taS S p (grS S p)
def shS (S : Sn) (p : Int) : Int := joS S p - snS S p
def suS (S : Sn) : Int := sm (sP S) (shS S)
def CP (h : Hp) (o : Nat) (S : Sn) : Prop := h o 0 = sK S ∧ h o 1 = sL S ∧ h o 2 = sP S ∧ (∀ i, 0 ≤ i → i < 30 → h (o + 1) i = sT S i) ∧ (∀ x, 0 ≤ x → x < sP S → h (o + 2) x = sR S x) ∧ (∀ p, 0 ≤ p → p < sP S → h (o + 3) p = bs (sH S p))
def CA (h : Hp) (o : Nat) (S : Sn) : Prop := CP h o S ∧ (∀ p, 0 ≤ p → p < sP S → h (o + 4) p = bs (opS S p)) ∧ (∀ p, 0 ≤ p → p < sP S → h (o + 5) p = dpS S p) ∧ (∀ p, 0 ≤ p → p < sP S → h (o + 6) p = grS S p) ∧ (∀ p, 0 ≤ p → p < sP S → h (o + 7) p = snS S p)
/-! ranges -/
theorem taS_in {S : Sn} (hW : WF S) (p k : Int) : -9 ≤ taS S p k ∧ taS S p k ≤ 9 := by
  obtain ⟨_, _, _, _, hT, _⟩ := hW
  unfold taS; split
  · omega
  · exact hT _
theorem stS_in {S : Sn} (hW : WF S) (p who k : Int) : 0 ≤ stS S p who k ∧ stS S p who k ≤ 9 := by
  have := taS_in hW who k
  unfold stS; split
  · omega
  · split <;> omega
theorem snS_in {S : Sn} (hW : WF S) (p : Int) : 0 ≤ snS S p ∧ snS S p ≤ 54 := by
  have h1 : sP S * 0 ≤ snS S p ∧ snS S p ≤ sP S * 9 := sm_le hW.2.2.1.1 (fun q _ _ => by
    have := stS_in hW q p (grS S q)
    split <;> omega)
  have := hW.2.2.1
  omega
theorem joS_in {S : Sn} (hW : WF S) (p : Int) : -9 ≤ joS S p ∧ joS S p ≤ 9 := taS_in hW _ _
theorem shS_in {S : Sn} (hW : WF S) (p : Int) : -63 ≤ shS S p ∧ shS S p ≤ 9 := by
  have := joS_in hW p; have := snS_in hW p; unfold shS; omega
theorem grS_in (S : Sn) (p : Int) : -1 ≤ grS S p ∧ grS S p < 5 := fv_in _ _ _ (by omega)
theorem guS_in (S : Sn) (p who : Int) : -1 ≤ guS S p who ∧ guS S p who < 5 := fv_in _ _ _ (by omega)
theorem dcR_in {R : Int → Int} {n L x m : Int} (hn : 0 ≤ n) (hx : 0 ≤ x ∧ x < n) (hR : ∀ y, 0 ≤ y → y < n → 0 ≤ R y ∧ R y < m) : -1 ≤ dcR R n L x ∧ dcR R n L x < m := by
  have h0 := hR 0 (by omega) (by omega)
  unfold dcR
  split
  · have := hR (x + 1) (by omega) (by omega); omega
  · split
    · omega
    · split
      · have := hR (n - 2) (by omega) (by omega); omega
      · omega
theorem dpS_in {S : Sn} (hW : WF S) (hF : Full S) {p : Int} (hp : 0 ≤ p ∧ p < sP S) : -1 ≤ dpS S p ∧ dpS S p < sP S := by
  obtain ⟨_, _, hP, _, _, hR⟩ := hW
  obtain ⟨hN, hQ⟩ := hF
  have := hQ p hp.1 hp.2
  exact dcR_in (by omega) (by omega) (fun y a b => by have := hR y a b; omega)
/-! the class reads -/
theorem c_hated {h : Hp} {o : Nat} {S : Sn} (hW : WF S) (hC : CP h o S) {p : Int} (hp : 0 ≤ p ∧ p < 6) : sn_hated h o p = some (bs (hatS S p)) := by
  obtain ⟨hK, hL, hP, hN, hT, hR⟩ := hW
  obtain ⟨c0, c1, c2, cT, cR, cH⟩ := hC
  unfold sn_hated
  have hit := lp_fn (body := sn_hated_b1 h o p) (s0 := (0, 0)) (fun i => (bs (upto i (fun k => decide (sT S (p * 5 + k) < 0))), i)) (sK S) (bs (hatS S p)) (by omega) (by omega) (by rw [upto0]) (fun i a b => by
    have hT' := hT (p * 5 + i)
    simp (disch := omega) only [sn_hated_b1, c0, wr_id, chk_t, cT, if_pos, ← bs_up _ a (show i < 6 by omega), decide_eq_true_eq]) (by
    simp (disch := omega) only [sn_hated_b1, c0, wr_id, if_neg]
    rfl)
  rw [hit]; rfl
theorem c_loved {h : Hp} {o : Nat} {S : Sn} (hW : WF S) (hC : CP h o S) {p : Int} (hp : 0 ≤ p ∧ p < 6) : sn_loved h o p = some (bs (lovS S p)) := by
  obtain ⟨hK, hL, hP, hN, hT, hR⟩ := hW
  obtain ⟨c0, c1, c2, cT, cR, cH⟩ := hC
  unfold sn_loved
  have hit := lp_fn (body := sn_loved_b1 h o p) (s0 := (0, 0)) (fun i => (bs (upto i (fun k => decide (0 < sT S (p * 5 + k)))), i)) (sK S) (bs (lovS S p)) (by omega) (by omega) (by rw [upto0]) (fun i a b => by
    have hT' := hT (p * 5 + i)
    simp (disch := omega) only [sn_loved_b1, c0, wr_id, chk_t, cT, if_pos, ← bs_up _ a (show i < 6 by omega), decide_eq_true_eq]) (by
    simp (disch := omega) only [sn_loved_b1, c0, wr_id, if_neg]
    rfl)
  rw [hit]; rfl
theorem c_fav {h : Hp} {a : Nat} {T : Int → Int} (hT : ∀ i, -9 ≤ T i ∧ T i ≤ 9) {p : Int} (hp : 0 ≤ p ∧ p < 6) (cT : ∀ i, p * 5 ≤ i → i < p * 5 + 5 → h a i = T i) (c : Int → Bool) : sf_favourite h a p (bs c) = some (fv T p c 5) := by
  unfold sf_favourite
  have hit := lp_fn (body := sf_favourite_b1 h a p (bs c)) (s0 := (-1, 0, 0)) (fun i => (fv T p c i, (if fv T p c i = -1 then 0 else T (p * 5 + fv T p c i)), i)) 5 (fv T p c 5) (by omega) (by omega) (by rw [fv_zero]; rfl) (fun i g b => by
    have h1 := fv_in T p c g
    have h2 := hT (p * 5 + i)
    have h3 := hT (p * 5 + fv T p c i)
    have h4 : wr (iand (ishr (bs c) i) 1) = bt (c i) 1 := by rw [wr_iand]; exact bs_bit c i g (by omega)
    simp (disch := omega) only [sf_favourite_b1, wr_id, chk_t, if_pos, h4, cT, fv_succ T p c g, bt1]
    by_cases c1 : c i = true
    · by_cases c2 : fv T p c i = -1
      · simp (disch := omega) only [c1, c2, true_and, true_or, if_true, bd_some, if_neg]
      · simp (disch := omega) only [c1, c2, true_and, false_or, if_true, if_false, bd_some, wr_id]
        by_cases c3 : T (p * 5 + fv T p c i) < T (p * 5 + i)
        · simp (disch := omega) only [c3, if_true, bd_some, if_neg]
        · simp (disch := omega) only [c3, if_false, bd_some, c2]
    · simp only [c1, false_and, if_false, bd_some, Bool.false_eq_true]) (by
    simp (disch := omega) only [sf_favourite_b1, wr_id, if_neg])
  rw [hit]; rfl
theorem alS_lt {S : Sn} (hW : WF S) (who : Int) {k : Int} (hk : sK S ≤ k) : alS S who k = false := by
  have : ¬ k < sK S := by omega
  unfold alS
  split
  · split
    · simp [this]
    · rfl
  · simp [opS, hatS, upto, this]
theorem c_allowed {h : Hp} {o : Nat} {S : Sn} (hW : WF S) (hC : CP h o S) (cO : ∀ p, 0 ≤ p → p < sP S → h (o + 4) p = bs (opS S p)) {who : Int} (hw : -1 ≤ who ∧ who < sP S) : sn_allowedBy h o who = some (bs (alS S who)) := by
  obtain ⟨hK, hL, hP, hN, hT, hR⟩ := hW
  obtain ⟨c0, c1, c2, cT, cR, cH⟩ := hC
  unfold sn_allowedBy alS
  by_cases g : who = -1
  · simp (disch := omega) only [g, c0, c1, wr_id, if_true]
    by_cases g2 : sL S = 1
    · simp only [g2, if_true]; rw [bs_shl1 (sK S) (by omega) (by omega)]
    · simp only [g2, if_false]; rw [bs_zero]
  · simp (disch := omega) only [wr_id, g, if_false, chk_t, cO]
theorem c_gu {h : Hp} {o : Nat} {S : Sn} (hW : WF S) (hC : CP h o S) (cO : ∀ p, 0 ≤ p → p < sP S → h (o + 4) p = bs (opS S p)) {p who : Int} (hp : 0 ≤ p ∧ p < 6) (hw : -1 ≤ who ∧ who < sP S) : sn_grownUnder h o p who = some (guS S p who) := by
  unfold sn_grownUnder
  rw [c_allowed hW hC cO hw, bd_some, c_fav (T := sT S) hW.2.2.2.2.1 hp (fun i a b => hC.2.2.2.1 i (by omega) (by omega))]
  rfl
theorem c_ta {h : Hp} {o : Nat} {S : Sn} (hC : CP h o S) {p k : Int} (hp : 0 ≤ p ∧ p < 6) (hk : -1 ≤ k ∧ k < 5) : sn_tasteOf h o p k = some (taS S p k) := by
  obtain ⟨c0, c1, c2, cT, cR, cH⟩ := hC
  unfold sn_tasteOf taS
  by_cases g : k = -1
  · simp (disch := omega) only [g, if_true, bd_some]
  · simp (disch := omega) only [wr_id, g, if_false, chk_t, cT, bd_some]
theorem c_st {h : Hp} {o : Nat} {S : Sn} (hW : WF S) (hC : CP h o S) {p who k : Int} (hp : 0 ≤ p ∧ p < 6) (hw : -1 ≤ who ∧ who < 6) (hk : -1 ≤ k ∧ k < 5) : sn_stenchFrom h o p who k = some (stS S p who k) := by
  have := taS_in hW who k
  unfold sn_stenchFrom stS imax
  by_cases g : who = -1
  · simp (disch := omega) only [g, true_or, if_true, bd_some]
  · by_cases g2 : who = p
    · simp (disch := omega) only [wr_id, g, g2, or_true, if_true, bd_some]
      split <;> rfl
    · rw [if_neg (by rw [wr_id (by omega), wr_id (by omega)]; exact g), if_neg (by rw [wr_id (by omega), wr_id (by omega)]; exact g2), if_neg (by omega), c_ta hC (by omega) hk]
      simp (disch := omega) only [bd_some, wr_id]
      by_cases g3 : taS S who k < 0
      · rw [if_pos g3, if_neg (by omega)]
      · rw [if_neg g3]
        by_cases g4 : - taS S who k < 0
        · rw [if_pos g4]
        · rw [if_neg g4]; congr 1; omega
theorem c_dec {h : Hp} {a : Nat} {R : Int → Int} {n L x : Int} (hn : 0 ≤ n ∧ n ≤ 6) (hL : 0 ≤ L ∧ L ≤ 3) (hx : 0 ≤ x ∧ x < n) (cR : ∀ y, 0 ≤ y → y < n → h a y = R y) : sf_deciderAt h a n x L = some (dcR R n L x) := by
  unfold sf_deciderAt dcR
  by_cases g : x + 1 < n
  · simp (disch := omega) only [wr_id, g, if_true, chk_t, cR]
  · by_cases g2 : L = 2
    · simp (disch := omega) only [wr_id, g, g2, if_false, if_true, cR]
    · by_cases g3 : L = 3
      · by_cases g4 : 1 < n
        · simp (disch := omega) only [wr_id, if_neg, g, g2, g3, g4, if_false, if_true, chk_t, cR, bd_some, true_and]
        · simp (disch := omega) only [wr_id, if_neg, g, g2, g3, g4, if_false, if_true, bd_some, true_and]
      · simp (disch := omega) only [wr_id, if_neg, g, g2, g3, if_false, bd_some, false_and]
theorem c_plot {h : Hp} {o : Nat} {S : Sn} (hW : WF S) (hF : Full S) (hC : CP h o S) {p : Int} (hp : 0 ≤ p ∧ p < sP S) : sn_plotOf h o p = some (sQ S p) := by
  obtain ⟨hK, hL, hP, hN, hT, hR⟩ := hW
  obtain ⟨hNP, hQ⟩ := hF
  obtain ⟨c0, c1, c2, cT, cR, cH⟩ := hC
  have hq := hQ p hp.1 hp.2
  unfold sn_plotOf
  have hit := lp_fn (body := sn_plotOf_b1 h o p) (s0 := 0) (fun i => i) (sQ S p) (.inr (sQ S p)) (by omega) (by omega) rfl (fun i a b => by
    have hr := hR i a (by omega)
    have hne : sR S i ≠ p := by intro z; rw [z] at hr; omega
    simp (disch := omega) only [sn_plotOf_b1, c2, cR, wr_id, if_pos, chk_t, if_neg]) (by
    have hr := hR (sQ S p) (by omega) (by omega)
    simp (disch := omega) only [sn_plotOf_b1, c2, cR, wr_id, if_pos, chk_t])
  rw [hit]; rfl
theorem c_joy {h : Hp} {o : Nat} {S : Sn} (hC : CA h o S) {p : Int} (hP : sP S ≤ 6) (hp : 0 ≤ p ∧ p < sP S) : sn_joyOf h o p = some (joS S p) := by
  obtain ⟨hC, _, _, cG, _⟩ := hC
  have := grS_in S p
  unfold sn_joyOf
  simp (disch := omega) only [wr_id, chk_t, cG]
  rw [c_ta hC (by omega) (by omega)]
  rfl
theorem c_share {h : Hp} {o : Nat} {S : Sn} (hC : CA h o S) {p : Int} (hP : sP S ≤ 6) (hp : 0 ≤ p ∧ p < sP S) : sn_shareOf h o p = some (shS S p) := by
  unfold sn_shareOf
  rw [c_joy hC hP hp]
  obtain ⟨hC, _, _, cG, cS⟩ := hC
  simp (disch := omega) only [bd_some, wr_id, chk_t, cS]
  rfl
theorem suS_in {S : Sn} (hW : WF S) {n : Int} (hn : 0 ≤ n ∧ n ≤ 6) : -378 ≤ sm n (shS S) ∧ sm n (shS S) ≤ 54 := by
  have h1 := sm_le hn.1 (f := shS S) (m := -63) (M := 9) (fun k _ _ => shS_in hW k)
  omega
theorem c_sum {h : Hp} {o : Nat} {S : Sn} (hW : WF S) (hC : CA h o S) : sn_sumOfShares h o = some (suS S) := by
  have hP := hW.2.2.1
  have c2 := hC.1.2.2.1
  unfold sn_sumOfShares
  have hit := lp_fn (body := sn_sumOfShares_b1 h o) (s0 := (0, 0)) (fun i => (sm i (shS S), i)) (sP S) (suS S) (by omega) (by omega) rfl (fun i a b => by
    simp (disch := omega) only [sn_sumOfShares_b1, c2, wr_id, if_pos, c_share hC hP.2 ⟨a, b⟩, bd_some, sm_succ a]) (by
    simp (disch := omega) only [sn_sumOfShares_b1, c2, wr_id, if_neg]
    rfl)
  rw [hit]; rfl
def gwS (S : Sn) (k : Int) : Int → Bool := upto (sP S) (fun p => decide (grS S p = k))
theorem c_growers {h : Hp} {o : Nat} {S : Sn} (hW : WF S) (hC : CA h o S) {k : Int} (hk : -1 ≤ k ∧ k < 5) : sn_growersOf h o k = some (bs (gwS S k)) := by
  have hP := hW.2.2.1
  obtain ⟨⟨c0, c1, c2, cT, cR, cH⟩, _, _, cG, cS⟩ := hC
  unfold sn_growersOf
  have hit := lp_fn (body := sn_growersOf_b1 h o k) (s0 := (0, 0)) (fun i => (bs (upto i (fun p => decide (grS S p = k))), i)) (sP S) (bs (gwS S k)) (by omega) (by omega) (by rw [upto0]) (fun i a b => by
    have := grS_in S i
    simp (disch := omega) only [sn_growersOf_b1, c2, wr_id, if_pos, chk_t, cG, ← bs_up _ a (show i < 6 by omega), decide_eq_true_eq]) (by
    simp (disch := omega) only [sn_growersOf_b1, c2, wr_id, if_neg]
    rfl)
  rw [hit]; rfl
