/-! Layer 2: loops, sets as bits, sums, the most liked -/
theorem FU_big {n : Nat} (h : n ≤ 99999) : n < FU := by unfold FU; omega
theorem lp_run {σ ρ : Type} {body : σ → Option (σ ⊕ ρ)} {Q : ρ → Prop} (I : Int → σ → Prop) (n : Int) (step : ∀ i s, 0 ≤ i → i < n → I i s → (∃ s', body s = some (.inl s') ∧ I (i + 1) s') ∨ (∃ r, body s = some (.inr r) ∧ Q r)) (fin : ∀ s, I n s → ∃ r, body s = some (.inr r) ∧ Q r) : ∀ (f : Nat) (i : Int) (s : σ), 0 ≤ i → i ≤ n → n - i < f → I i s → ∃ r, iter f body s = some r ∧ Q r := by
  intro f
  induction f with
  | zero => intro i s _ h1 h2; omega
  | succ f ih =>
    intro i s h0 h1 h2 hI
    unfold iter
    by_cases h : i = n
    · subst h
      obtain ⟨r, e, q⟩ := fin s hI
      exact ⟨r, by rw [e], q⟩
    · rcases step i s h0 (by omega) hI with ⟨s', e, hI'⟩ | ⟨r, e, q⟩
      · obtain ⟨r, e2, q⟩ := ih (i + 1) s' (by omega) (by omega) (by omega) hI'
        exact ⟨r, by rw [e]; exact e2, q⟩
      · exact ⟨r, by rw [e], q⟩
theorem lp_ex {σ ρ : Type} {body : σ → Option (σ ⊕ ρ)} {Q : ρ → Prop} (I : Int → σ → Prop) (n : Int) (h0 : 0 ≤ n) (hn : n ≤ 90000) {s0 : σ} (hs : I 0 s0) (step : ∀ i s, 0 ≤ i → i < n → I i s → (∃ s', body s = some (.inl s') ∧ I (i + 1) s') ∨ (∃ r, body s = some (.inr r) ∧ Q r)) (fin : ∀ s, I n s → ∃ r, body s = some (.inr r) ∧ Q r) : ∃ r, iter FU body s0 = some r ∧ Q r :=
  lp_run I n step fin FU 0 s0 (by omega) h0 (by unfold FU; omega) hs
theorem lp {σ ρ : Type} {body : σ → Option (σ ⊕ ρ)} {Q : ρ → Prop} (I : Int → σ → Prop) (n : Int) (h0 : 0 ≤ n) (hn : n ≤ 90000) {s0 : σ} (hs : I 0 s0) (step : ∀ i s, 0 ≤ i → i < n → I i s → ∃ s', body s = some (.inl s') ∧ I (i + 1) s') (fin : ∀ s, I n s → ∃ r, body s = some (.inr r) ∧ Q r) : ∃ r, iter FU body s0 = some r ∧ Q r :=
  lp_ex I n h0 hn hs (fun i s a b c => Or.inl (step i s a b c)) fin
/-- a loop whose state is a function of its count -/
theorem lp_fn {σ ρ : Type} {body : σ → Option (σ ⊕ ρ)} (S : Int → σ) (n : Int) (r : ρ) (h0 : 0 ≤ n) (hn : n ≤ 90000) {s0 : σ} (hs : s0 = S 0) (step : ∀ i, 0 ≤ i → i < n → body (S i) = some (.inl (S (i + 1)))) (fin : body (S n) = some (.inr r)) : iter FU body s0 = some r := by
  obtain ⟨r', e, q⟩ := lp (Q := fun x => x = r) (fun i s => s = S i) n h0 hn hs (fun i s a b c => ⟨S (i + 1), by rw [c]; exact step i a b, rfl⟩) (fun s c => ⟨r, by rw [c]; exact fin, rfl⟩)
  rw [e, q]
/-- two loops in step -/
theorem lp_two_run {σ τ ρ κ : Type} {A : σ → Option (σ ⊕ ρ)} {B : τ → Option (τ ⊕ κ)} {Q : ρ → κ → Prop} (I : Int → σ → τ → Prop) (n : Int) (step : ∀ i s t, 0 ≤ i → i < n → I i s t → (∃ s' t', A s = some (.inl s') ∧ B t = some (.inl t') ∧ I (i + 1) s' t') ∨ (∃ r k, A s = some (.inr r) ∧ B t = some (.inr k) ∧ Q r k)) (fin : ∀ s t, I n s t → ∃ r k, A s = some (.inr r) ∧ B t = some (.inr k) ∧ Q r k) : ∀ (f : Nat) (i : Int) (s : σ) (t : τ), 0 ≤ i → i ≤ n → n - i < f → I i s t → ∃ r k, iter f A s = some r ∧ iter f B t = some k ∧ Q r k := by
  intro f
  induction f with
  | zero => intro i s t _ h1 h2; omega
  | succ f ih =>
    intro i s t h0 h1 h2 hI
    unfold iter
    by_cases h : i = n
    · subst h
      obtain ⟨r, k, e, e', q⟩ := fin s t hI
      exact ⟨r, k, by rw [e], by rw [e'], q⟩
    · rcases step i s t h0 (by omega) hI with ⟨s', t', e, e', hI'⟩ | ⟨r, k, e, e', q⟩
      · obtain ⟨r, k, e2, e3, q⟩ := ih (i + 1) s' t' (by omega) (by omega) (by omega) hI'
        exact ⟨r, k, by rw [e]; exact e2, by rw [e']; exact e3, q⟩
      · exact ⟨r, k, by rw [e], by rw [e'], q⟩
theorem lp_two {σ τ ρ κ : Type} {A : σ → Option (σ ⊕ ρ)} {B : τ → Option (τ ⊕ κ)} {Q : ρ → κ → Prop} (I : Int → σ → τ → Prop) (n : Int) (h0 : 0 ≤ n) (hn : n ≤ 90000) {s0 : σ} {t0 : τ} (hs : I 0 s0 t0) (step : ∀ i s t, 0 ≤ i → i < n → I i s t → (∃ s' t', A s = some (.inl s') ∧ B t = some (.inl t') ∧ I (i + 1) s' t') ∨ (∃ r k, A s = some (.inr r) ∧ B t = some (.inr k) ∧ Q r k)) (fin : ∀ s t, I n s t → ∃ r k, A s = some (.inr r) ∧ B t = some (.inr k) ∧ Q r k) : ∃ r k, iter FU A s0 = some r ∧ iter FU B t0 = some k ∧ Q r k :=
  lp_two_run I n step fin FU 0 s0 t0 (by omega) h0 (by unfold FU; omega) hs
/-! wr of what is a number already -/
theorem wr_iand (a b : Int) : wr (iand a b) = iand a b := by
  show (Int32.ofInt (Int32.ofInt a &&& Int32.ofInt b).toInt).toInt = _
  rw [Int32.ofInt_toInt]; rfl
theorem wr_ior (a b : Int) : wr (ior a b) = ior a b := by
  show (Int32.ofInt (Int32.ofInt a ||| Int32.ofInt b).toInt).toInt = _
  rw [Int32.ofInt_toInt]; rfl
theorem wr_ishl (a b : Int) : wr (ishl a b) = ishl a b := by
  show (Int32.ofInt (Int32.ofInt a <<< (Int32.ofInt b &&& 31)).toInt).toInt = _
  rw [Int32.ofInt_toInt]; rfl
theorem wr_ishr (a b : Int) : wr (ishr a b) = ishr a b := by
  show (Int32.ofInt (Int32.ofInt a >>> (Int32.ofInt b &&& 31)).toInt).toInt = _
  rw [Int32.ofInt_toInt]; rfl
/-! one slot set -/
theorem up_eq (h : Hp) (k : Nat) (i v : Int) : up h k i v k i = v := by simp [up]
theorem up_ik {h : Hp} {k : Nat} {i v j : Int} (e : j = i) : up h k i v k j = v := by subst e; exact up_eq ..
theorem up_ni {h : Hp} {k a : Nat} {i v j : Int} (e : j ≠ i) : up h k i v a j = h a j := by simp [up, e]
theorem up_nk {h : Hp} {k a : Nat} {i v : Int} (e : a ≠ k) : up h k i v a = h a := by funext j; simp [up, e]
theorem chk_t {α : Type} {c : Prop} [Decidable c] {X : Option α} (hc : c) : chk c X = X := by unfold chk; exact if_pos hc
theorem bd_some {α β : Type} (x : α) (f : α → Option β) : Option.bind (some x) f = f x := rfl
/-! sets of numbers below 6 -/
def bt (c : Bool) (v : Int) : Int := if c then v else 0
def bs6 (a b c d e f : Bool) : Int := bt a 1 + bt b 2 + bt c 4 + bt d 8 + bt e 16 + bt f 32
def bs (c : Int → Bool) : Int := bs6 (c 0) (c 1) (c 2) (c 3) (c 4) (c 5)
theorem bs6_in : ∀ a b c d e f : Bool, 0 ≤ bs6 a b c d e f ∧ bs6 a b c d e f < 64 := by decide +kernel
theorem bs_in (c : Int → Bool) : 0 ≤ bs c ∧ bs c < 64 := bs6_in ..
theorem wr_bs (c : Int → Bool) : wr (bs c) = bs c := wr_id (by have := bs_in c; omega)
theorem bs_congr {c d : Int → Bool} (h : ∀ k, 0 ≤ k → k < 6 → c k = d k) : bs c = bs d := by
  unfold bs
  rw [h 0 (by omega) (by omega), h 1 (by omega) (by omega), h 2 (by omega) (by omega), h 3 (by omega) (by omega), h 4 (by omega) (by omega), h 5 (by omega) (by omega)]
theorem bs6_ior : ∀ a b c d e f a' b' c' d' e' f' : Bool, ior (bs6 a b c d e f) (bs6 a' b' c' d' e' f') = bs6 (a || a') (b || b') (c || c') (d || d') (e || e') (f || f') := by decide +kernel
theorem bs_ior (c d : Int → Bool) : ior (bs c) (bs d) = bs (fun k => c k || d k) := bs6_ior ..
theorem bs6_iand : ∀ a b c d e f a' b' c' d' e' f' : Bool, iand (bs6 a b c d e f) (bs6 a' b' c' d' e' f') = bs6 (a && a') (b && b') (c && c') (d && d') (e && e') (f && f') := by decide +kernel
theorem bs_iand (c d : Int → Bool) : iand (bs c) (bs d) = bs (fun k => c k && d k) := bs6_iand ..
theorem bs6_andn : ∀ a b c d e f a' b' c' d' e' f' : Bool, iand (bs6 a b c d e f) (ixor (bs6 a' b' c' d' e' f') (-1)) = bs6 (a && !a') (b && !b') (c && !c') (d && !d') (e && !e') (f && !f') := by decide +kernel
theorem bs_andn (c d : Int → Bool) : iand (bs c) (ixor (bs d) (-1)) = bs (fun k => c k && !d k) := bs6_andn ..
theorem six {P : Int → Prop} (h0 : P 0) (h1 : P 1) (h2 : P 2) (h3 : P 3) (h4 : P 4) (h5 : P 5) : ∀ j, 0 ≤ j → j < 6 → P j := by
  intro j a b
  have : j = 0 ∨ j = 1 ∨ j = 2 ∨ j = 3 ∨ j = 4 ∨ j = 5 := by omega
  rcases this with e | e | e | e | e | e <;> (subst e; assumption)
theorem bs_shl : ∀ j : Int, 0 ≤ j → j < 6 → ishl 1 j = bs (fun k => k == j) :=
  six (by decide) (by decide) (by decide) (by decide) (by decide) (by decide)
theorem bs_shl1 : ∀ j : Int, 0 ≤ j → j < 6 → ishl 1 j - 1 = bs (fun k => decide (k < j)) :=
  six (by decide) (by decide) (by decide) (by decide) (by decide) (by decide)
theorem bs6_bit : ∀ a b c d e f : Bool, iand (ishr (bs6 a b c d e f) 0) 1 = bt a 1 ∧ iand (ishr (bs6 a b c d e f) 1) 1 = bt b 1 ∧ iand (ishr (bs6 a b c d e f) 2) 1 = bt c 1 ∧ iand (ishr (bs6 a b c d e f) 3) 1 = bt d 1 ∧ iand (ishr (bs6 a b c d e f) 4) 1 = bt e 1 ∧ iand (ishr (bs6 a b c d e f) 5) 1 = bt f 1 := by decide +kernel
theorem bs_bit (c : Int → Bool) : ∀ j : Int, 0 ≤ j → j < 6 → iand (ishr (bs c) j) 1 = bt (c j) 1 := by
  obtain ⟨h0, h1, h2, h3, h4, h5⟩ := bs6_bit (c 0) (c 1) (c 2) (c 3) (c 4) (c 5)
  exact six h0 h1 h2 h3 h4 h5
theorem bt1 (c : Bool) : (bt c 1 = 1) = (c = true) := by cases c <;> simp [bt]
theorem bs6_ext : ∀ a b c d e f a' b' c' d' e' f' : Bool, bs6 a b c d e f = bs6 a' b' c' d' e' f' → a = a' ∧ b = b' ∧ c = c' ∧ d = d' ∧ e = e' ∧ f = f' := by decide +kernel
theorem bs_ext {c d : Int → Bool} (e : bs c = bs d) : ∀ j, 0 ≤ j → j < 6 → c j = d j := by
  obtain ⟨h0, h1, h2, h3, h4, h5⟩ := bs6_ext _ _ _ _ _ _ _ _ _ _ _ _ e
  exact six h0 h1 h2 h3 h4 h5
theorem bs_zero : bs (fun _ => false) = 0 := by decide
theorem bs_eq0 {c : Int → Bool} : bs c = 0 ↔ ∀ j, 0 ≤ j → j < 6 → c j = false := by
  rw [← bs_zero]
  exact ⟨bs_ext, bs_congr⟩
/-- the set that a number below 64 is -/
def tb (v k : Int) : Bool := v / (2 : Int) ^ k.toNat % 2 == 1
theorem bs_tb' : ∀ v : Fin 64, bs (tb ((v : Nat) : Int)) = ((v : Nat) : Int) := by decide +kernel
theorem bs_tb {v : Int} (h : 0 ≤ v ∧ v < 64) : bs (tb v) = v := by
  have := bs_tb' ⟨v.toNat, by omega⟩
  have e : ((v.toNat : Nat) : Int) = v := by omega
  simpa only [e] using this
/-- members below i -/
def upto (i : Int) (c : Int → Bool) : Int → Bool := fun k => decide (k < i) && c k
theorem upto_succ {i : Int} {c : Int → Bool} (hc : c i = true) : (fun k => upto i c k || (k == i)) = upto (i + 1) c := by
  funext k
  unfold upto
  by_cases e : k = i
  · subst e
    have : k < k + 1 := by omega
    simp [hc, this]
  · have : (decide (k < i + 1)) = decide (k < i) := by
      by_cases g : k < i
      · simp [g]; omega
      · simp [g]; omega
    simp [this, e]
theorem upto_skip {i : Int} {c : Int → Bool} (hc : c i = false) : upto i c = upto (i + 1) c := by
  funext k
  unfold upto
  by_cases e : k = i
  · subst e; simp [hc]
  · have : (decide (k < i + 1)) = decide (k < i) := by
      by_cases g : k < i
      · simp [g]; omega
      · simp [g]; omega
    simp [this]
theorem bs_up (c : Int → Bool) {i : Int} (h0 : 0 ≤ i) (h1 : i < 6) : (if c i then ior (bs (upto i c)) (ishl 1 i) else bs (upto i c)) = bs (upto (i + 1) c) := by
  cases hc : c i
  · simp only [Bool.false_eq_true, if_false]; rw [upto_skip hc]
  · simp only [if_true]; rw [bs_shl i h0 h1, bs_ior, upto_succ hc]
theorem bs_up' (c : Int → Bool) {i : Int} (h0 : 0 ≤ i) (h1 : i < 6) : ior (bs (upto i c)) (if c i then ishl 1 i else 0) = bs (upto (i + 1) c) := by
  cases hc : c i
  · simp only [Bool.false_eq_true, if_false]
    rw [← bs_zero, bs_ior, ← upto_skip hc]
    simp
  · simp only [if_true]; rw [bs_shl i h0 h1, bs_ior, upto_succ hc]
theorem upto0 (c : Int → Bool) : bs (upto 0 c) = 0 := by
  refine (bs_congr (d := fun _ => false) ?_).trans bs_zero
  intro k h0 _
  have : ¬ k < 0 := by omega
  simp [upto, this]
/-- how many -/
def ct (c : Int → Bool) : Int := bt (c 0) 1 + bt (c 1) 1 + bt (c 2) 1 + bt (c 3) 1 + bt (c 4) 1 + bt (c 5) 1
theorem bitCount6 : ∀ a b c d e f : Bool, jd_bitCount_0f7a4 (fun _ _ => 0) (bs6 a b c d e f) = some (bt a 1 + bt b 1 + bt c 1 + bt d 1 + bt e 1 + bt f 1) := by decide +kernel
theorem bitCount_bs (h : Hp) (c : Int → Bool) : jd_bitCount_0f7a4 h (bs c) = some (ct c) := bitCount6 ..
theorem sizeOf6 : ∀ a b c d e f : Bool, md_sizeOf (fun _ _ => 0) (bs6 a b c d e f) = some (bt a 1 + bt b 1 + bt c 1 + bt d 1 + bt e 1 + bt f 1) := by decide +kernel
theorem sizeOf_bs (h : Hp) (c : Int → Bool) : md_sizeOf h (bs c) = some (ct c) := sizeOf6 ..
theorem bt_in (c : Bool) : 0 ≤ bt c 1 ∧ bt c 1 ≤ 1 := by cases c <;> simp [bt]
theorem ct_in (c : Int → Bool) : 0 ≤ ct c ∧ ct c ≤ 6 := by
  unfold ct
  have := bt_in (c 0); have := bt_in (c 1); have := bt_in (c 2); have := bt_in (c 3); have := bt_in (c 4); have := bt_in (c 5)
  omega
/-! sums -/
def sumN (f : Int → Int) : Nat → Int
  | 0 => 0
  | n + 1 => sumN f n + f (n : Int)
def sm (n : Int) (f : Int → Int) : Int := sumN f n.toNat
theorem sm_zero (f : Int → Int) : sm 0 f = 0 := rfl
theorem sm_succ {i : Int} (h : 0 ≤ i) (f : Int → Int) : sm (i + 1) f = sm i f + f i := by
  unfold sm
  have e : (i + 1).toNat = i.toNat + 1 := by omega
  have e2 : ((i.toNat : Nat) : Int) = i := by omega
  rw [e, sumN, e2]
theorem ind_to {P : Int → Prop} {n : Int} (h0 : P 0) (hs : ∀ i, 0 ≤ i → i < n → P i → P (i + 1)) : ∀ i, 0 ≤ i → i ≤ n → P i := by
  intro i a b
  have : ∀ k : Nat, (k : Int) ≤ n → P (k : Int) := by
    intro k
    induction k with
    | zero => intro _; exact h0
    | succ k ih => intro h; have := hs (k : Int) (by omega) (by omega) (ih (by omega)); simpa using this
  have e : ((i.toNat : Nat) : Int) = i := by omega
  rw [← e]; exact this _ (by omega)
theorem sm_congr {n : Int} {f g : Int → Int} (hn : 0 ≤ n) (h : ∀ k, 0 ≤ k → k < n → f k = g k) : sm n f = sm n g :=
  ind_to (P := fun i => sm i f = sm i g) (n := n) rfl (fun i a b c => by rw [sm_succ a, sm_succ a, c, h i a b]) n hn (by omega)
theorem sm_add {n : Int} (hn : 0 ≤ n) (f g : Int → Int) : sm n (fun k => f k + g k) = sm n f + sm n g :=
  ind_to (P := fun i => sm i (fun k => f k + g k) = sm i f + sm i g) (n := n) rfl (fun i a b c => by rw [sm_succ a, sm_succ a, sm_succ a, c]; omega) n hn (by omega)
theorem sm_neg {n : Int} (hn : 0 ≤ n) (f : Int → Int) : sm n (fun k => - f k) = - sm n f :=
  ind_to (P := fun i => sm i (fun k => - f k) = - sm i f) (n := n) rfl (fun i a b c => by rw [sm_succ a, sm_succ a, c]; omega) n hn (by omega)
theorem sm_null {n : Int} (hn : 0 ≤ n) {f : Int → Int} (h : ∀ k, 0 ≤ k → k < n → f k = 0) : sm n f = 0 :=
  ind_to (P := fun i => sm i f = 0) (n := n) rfl (fun i a b c => by rw [sm_succ a, c, h i a b]; rfl) n hn (by omega)
theorem sm_le {n : Int} (hn : 0 ≤ n) {f : Int → Int} {m M : Int} (h : ∀ k, 0 ≤ k → k < n → m ≤ f k ∧ f k ≤ M) : n * m ≤ sm n f ∧ sm n f ≤ n * M :=
  ind_to (P := fun i => i * m ≤ sm i f ∧ sm i f ≤ i * M) (n := n) (by rw [sm_zero]; omega) (fun i a b c => by
    have := h i a b
    rw [sm_succ a, Int.add_mul, Int.add_mul]
    omega) n hn (by omega)
/-- one alone counts -/
theorem sm_one {n : Int} (hn : 0 ≤ n) (j : Int) (f : Int → Int) : sm n (fun k => if k = j then f k else 0) = if 0 ≤ j ∧ j < n then f j else 0 :=
  ind_to (P := fun i => sm i (fun k => if k = j then f k else 0) = if 0 ≤ j ∧ j < i then f j else 0) (n := n) (by rw [sm_zero, if_neg]; omega) (fun i a b c => by
    rw [sm_succ a, c]
    by_cases e : i = j
    · subst e; simp; omega
    · by_cases g : 0 ≤ j ∧ j < i
      · rw [if_pos g, if_neg e, if_pos (by omega)]; omega
      · rw [if_neg g, if_neg e, if_neg (by omega)]; rfl) n hn (by omega)
theorem sm_swap {n m : Int} (hn : 0 ≤ n) (hm : 0 ≤ m) (f : Int → Int → Int) : sm n (fun a => sm m (fun b => f a b)) = sm m (fun b => sm n (fun a => f a b)) :=
  ind_to (P := fun i => sm i (fun a => sm m (fun b => f a b)) = sm m (fun b => sm i (fun a => f a b))) (n := n) (by
    rw [sm_zero]; exact (sm_null hm (fun k _ _ => rfl)).symm) (fun i a b c => by
    rw [sm_succ a, c, ← sm_add hm]
    exact sm_congr hm (fun k _ _ => (sm_succ a _).symm)) n hn (by omega)
/-- a sum over a row of all -/
theorem sm_perm {n : Int} (hn : 0 ≤ n) {R Q : Int → Int} (hR : ∀ x, 0 ≤ x → x < n → 0 ≤ R x ∧ R x < n ∧ Q (R x) = x) (hQ : ∀ p, 0 ≤ p → p < n → 0 ≤ Q p ∧ Q p < n ∧ R (Q p) = p) (f : Int → Int) : sm n (fun x => f (R x)) = sm n f := by
  have h1 : sm n (fun x => f (R x)) = sm n (fun x => sm n (fun q => if q = R x then f q else 0)) := sm_congr hn (fun x a b => by
    rw [sm_one hn (R x) f, if_pos]; have := hR x a b; omega)
  have h2 : sm n f = sm n (fun q => sm n (fun x => if x = Q q then f q else 0)) := sm_congr hn (fun q a b => by
    rw [sm_one hn (Q q) (fun _ => f q), if_pos]; have := hQ q a b; omega)
  rw [h1, h2, sm_swap hn hn]
  refine sm_congr hn (fun q a b => sm_congr hn (fun x c d => ?_))
  have g1 := hR x c d
  have g2 := hQ q a b
  by_cases e : q = R x
  · have : x = Q q := by rw [e]; exact g1.2.2.symm
    rw [if_pos e, if_pos this]
  · have : x ≠ Q q := by intro z; apply e; rw [z]; exact g2.2.2.symm
    rw [if_neg e, if_neg this]
