/-! Layer 2: reading: one token by both -/
def En (T : Int → Int) (s : Int) : Nat → Int
  | 0 => 0
  | k + 1 => 27 * En T s k + T (s + (k : Int)) - 96
def EnI (T : Int → Int) (s k : Int) : Int := En T s k.toNat
theorem EnI_succ (T : Int → Int) (s : Int) {i : Int} (h : 0 ≤ i) : EnI T s (i + 1) = 27 * EnI T s i + T (s + i) - 96 := by
  unfold EnI
  have e : (i + 1).toNat = i.toNat + 1 := by omega
  have e2 : ((i.toNat : Nat) : Int) = i := by omega
  rw [e, En, e2]
def Wrd (T : Int → Int) (s e v : Int) : Prop := (e - s ≤ 12 ∧ v = EnI T s (e - s)) ∨ (12 < e - s ∧ v = -1)
def Nu (x y : Int) : Prop := (x = y ∧ 0 ≤ x ∧ x < 1000) ∨ (x = 1000 ∧ 1000 ≤ y ∧ y ≤ 1000009)
def TxC (T : Int → Int) (n : Int) (c : Hp) : Prop := c 1 2 = n ∧ ∀ j, 0 ≤ j → j < n → c 2 j = T j
def TxM (T : Int → Int) (n : Int) (m : Hp) : Prop := m 167 6 = n ∧ ∀ j, 0 ≤ j → j < n → m 172 j = T j
def TxT (T : Int → Int) (n : Int) : Prop := (0 ≤ n ∧ n ≤ 800) ∧ ∀ j, 0 ≤ j → j < n → -128 ≤ T j ∧ T j ≤ 127
def FC (c c' : Hp) : Prop := (∀ a, a ≠ 1 → c' a = c a) ∧ ∀ j, (j < 4 ∨ 7 < j) → c' 1 j = c 1 j
def FM (m m' : Hp) : Prop := (∀ a, a ≠ 167 → m' a = m a) ∧ ∀ j, (j < 7 ∨ 11 < j) → m' 167 j = m 167 j
theorem FC_tr {a b c : Hp} (h : FC a b) (k : FC b c) : FC a c := ⟨fun x hx => (k.1 x hx).trans (h.1 x hx), fun x hx => (k.2 x hx).trans (h.2 x hx)⟩
theorem FM_tr {a b c : Hp} (h : FM a b) (k : FM b c) : FM a c := ⟨fun x hx => (k.1 x hx).trans (h.1 x hx), fun x hx => (k.2 x hx).trans (h.2 x hx)⟩
theorem FC_rfl (a : Hp) : FC a a := ⟨fun _ _ => rfl, fun _ _ => rfl⟩
theorem FM_rfl (a : Hp) : FM a a := ⟨fun _ _ => rfl, fun _ _ => rfl⟩
theorem FC_up {a b : Hp} (h : FC a b) {j v : Int} (hj : 4 ≤ j ∧ j ≤ 7) : FC a (up b 1 j v) := ⟨fun x hx => by rw [up_nk hx]; exact h.1 x hx, fun x hx => by rw [up_ni (by omega)]; exact h.2 x hx⟩
theorem FM_up {a b : Hp} (h : FM a b) {j v : Int} (hj : 7 ≤ j ∧ j ≤ 11) : FM a (up b 167 j v) := ⟨fun x hx => by rw [up_nk hx]; exact h.1 x hx, fun x hx => by rw [up_ni (by omega)]; exact h.2 x hx⟩
theorem TxC_f {T : Int → Int} {n : Int} {c c' : Hp} (h : TxC T n c) (f : FC c c') : TxC T n c' := ⟨by rw [f.2 2 (by omega)]; exact h.1, by rw [f.1 2 (by omega)]; exact h.2⟩
theorem TxM_f {T : Int → Int} {n : Int} {c c' : Hp} (h : TxM T n c) (f : FM c c') : TxM T n c' := ⟨by rw [f.2 6 (by omega)]; exact h.1, by rw [f.1 172 (by omega)]; exact h.2⟩
theorem bI_if (c : Prop) [Decidable c] : (if c then some 1 else some 0 : Option Int) = some (bI c) := by unfold bI; split <;> rfl
section
variable {T : Int → Int} {n : Int} {c m : Hp} {x : Int}
theorem c_blank (hT : TxT T n) (hc : TxC T n c) (hx : 0 ≤ x ∧ x < n) : rd_isBlank c x = some (bI (T x = 32 ∨ T x = 10)) := by
  have t := hT.2 x hx.1 hx.2
  have hn := hT.1
  unfold rd_isBlank
  rw [w32 (show -1000000 ≤ x ∧ x ≤ 1000000 by omega), hc.2 x hx.1 hx.2, w32 (show -1000000 ≤ T x ∧ T x ≤ 1000000 by omega), w32 (show -1000000 ≤ (32 : Int) ∧ (32 : Int) ≤ 1000000 by omega), w32 (show -1000000 ≤ (10 : Int) ∧ (10 : Int) ≤ 1000000 by omega), chk_t (by omega), chk_t (by omega)]
  by_cases z1 : T x = 32
  · rw [if_pos z1, bd_some, chk_t (by omega), bI_t (Or.inl z1)]
  · by_cases z2 : T x = 10
    · rw [if_neg z1, if_pos z2, bd_some, chk_t (by omega), bI_t (Or.inr z2)]
    · rw [if_neg z1, if_neg z2, bd_some, chk_t (by omega), bI_f (fun y => by omega)]
theorem c_letter (hT : TxT T n) (hc : TxC T n c) (hx : 0 ≤ x ∧ x < n) : rd_isLetter c x = some (bI (97 ≤ T x ∧ T x ≤ 122)) := by
  have t := hT.2 x hx.1 hx.2
  have hn := hT.1
  unfold rd_isLetter
  rw [w32 (show -1000000 ≤ x ∧ x ≤ 1000000 by omega), hc.2 x hx.1 hx.2, w32 (show -1000000 ≤ T x ∧ T x ≤ 1000000 by omega), w32 (show -1000000 ≤ (97 : Int) ∧ (97 : Int) ≤ 1000000 by omega), w32 (show -1000000 ≤ (122 : Int) ∧ (122 : Int) ≤ 1000000 by omega), chk_t (by omega), chk_t (by omega)]
  by_cases z1 : 97 ≤ T x
  · by_cases z2 : T x ≤ 122
    · rw [if_pos z1, if_pos z2, bd_some, chk_t (by omega), bI_t ⟨z1, z2⟩]
    · rw [if_pos z1, if_neg z2, bd_some, chk_t (by omega), bI_f (fun y => z2 y.2)]
  · rw [if_neg z1, bd_some, chk_t (by omega), bI_f (fun y => z1 y.1)]
theorem c_digit (hT : TxT T n) (hc : TxC T n c) (hx : 0 ≤ x ∧ x < n) : rd_isDigit c x = some (bI (48 ≤ T x ∧ T x ≤ 57)) := by
  have t := hT.2 x hx.1 hx.2
  have hn := hT.1
  unfold rd_isDigit
  rw [w32 (show -1000000 ≤ x ∧ x ≤ 1000000 by omega), hc.2 x hx.1 hx.2, w32 (show -1000000 ≤ T x ∧ T x ≤ 1000000 by omega), w32 (show -1000000 ≤ (48 : Int) ∧ (48 : Int) ≤ 1000000 by omega), w32 (show -1000000 ≤ (57 : Int) ∧ (57 : Int) ≤ 1000000 by omega), chk_t (by omega), chk_t (by omega)]
  by_cases z1 : 48 ≤ T x
  · by_cases z2 : T x ≤ 57
    · rw [if_pos z1, if_pos z2, bd_some, chk_t (by omega), bI_t ⟨z1, z2⟩]
    · rw [if_pos z1, if_neg z2, bd_some, chk_t (by omega), bI_f (fun y => z2 y.2)]
  · rw [if_neg z1, bd_some, chk_t (by omega), bI_f (fun y => z1 y.1)]
theorem m_byte (hT : TxT T n) (hm : TxM T n m) (hx : 0 ≤ x ∧ x ≤ n) {lo hi : Int} (hl : -1000000 ≤ lo ∧ lo ≤ 1000000) (hh : -1000000 ≤ hi ∧ hi ≤ 1000000) : md_isByte m x lo hi = some (bI (x < n ∧ lo ≤ T x ∧ T x ≤ hi)) := by
  have hn := hT.1
  unfold md_isByte
  rw [hm.1, w32 (show -1000000 ≤ x ∧ x ≤ 1000000 by omega), w32 (show -1000000 ≤ n ∧ n ≤ 1000000 by omega)]
  by_cases z0 : x < n
  · have t := hT.2 x hx.1 z0
    rw [if_pos z0, hm.2 x hx.1 z0, w32 (show -1000000 ≤ T x ∧ T x ≤ 1000000 by omega), w32 hl, w32 hh, chk_t (by omega), chk_t (by omega)]
    by_cases z1 : lo ≤ T x
    · by_cases z2 : T x ≤ hi
      · rw [if_pos z1, if_pos z2, bd_some, chk_t (by omega), bI_t ⟨z0, z1, z2⟩]
      · rw [if_pos z1, if_neg z2, bd_some, chk_t (by omega), bI_f (fun y => z2 y.2.2)]
    · rw [if_neg z1, bd_some, chk_t (by omega), bI_f (fun y => z1 y.2.1)]
  · rw [if_neg z0, bd_some, chk_t (by omega), bI_f (fun y => z0 y.1)]
theorem s_blank (hT : TxT T n) (hc : TxC T n c) (hm : TxM T n m) {b : Int} (hb : 0 ≤ b ∧ b ≤ n) (e1 : c 1 4 = b) (e2 : m 167 7 = b) : ∃ c' m', iter FU rd_step_b1 c = some c' ∧ iter FU md_next_b1 m = some m' ∧ FC c c' ∧ FM m m' ∧ ∃ x, b ≤ x ∧ x ≤ n ∧ c' 1 4 = x ∧ m' 167 7 = x := by
  have hn := hT.1
  have n1 : ¬ wr 1 = 0 := by decide
  have n0 : wr 0 = 0 := rfl
  refine lp_two (fun i s t => FC c s ∧ FM m t ∧ s 1 4 = b + i ∧ t 167 7 = b + i) (n - b) (by omega) (by omega) ⟨FC_rfl c, FM_rfl m, by omega, by omega⟩ (fun i s t a d hi => ?_) (fun s t hi => ?_)
  · obtain ⟨f1, f2, x1, x2⟩ := hi
    obtain ⟨x, ex⟩ : ∃ x, x = b + i := ⟨_, rfl⟩
    rw [← ex] at x1 x2
    have tc := TxC_f hc f1
    have tm := TxM_f hm f2
    have k1 := c_blank hT tc (x := x) (by omega)
    have k2 := m_byte hT tm (x := x) (by omega) (lo := 32) (hi := 32) (by omega) (by omega)
    have k3 := m_byte hT tm (x := x) (by omega) (lo := 10) (hi := 10) (by omega) (by omega)
    unfold rd_step_b1 md_next_b1
    rw [x1, x2, tc.1, w32 (show -1000000 ≤ x ∧ x ≤ 1000000 by omega), w32 (show -1000000 ≤ n ∧ n ≤ 1000000 by omega), if_pos (by omega), k1, k2, k3, bd_some, bd_some, bd_some]
    by_cases z1 : T x = 32
    · left
      refine ⟨up s 1 4 (x + 1), up t 167 7 (x + 1), ?_, ?_, FC_up f1 (by omega), FM_up f2 (by omega), by rw [up_eq]; omega, by rw [up_eq]; omega⟩
      · rw [bI_t (Or.inl z1), if_neg n1, lt_eq]
      · rw [bI_t (show x < n ∧ 32 ≤ T x ∧ T x ≤ 32 by omega), if_neg n1, lt_eq]
    · by_cases z2 : T x = 10
      · left
        refine ⟨up s 1 4 (x + 1), up t 167 7 (x + 1), ?_, ?_, FC_up f1 (by omega), FM_up f2 (by omega), by rw [up_eq]; omega, by rw [up_eq]; omega⟩
        · rw [bI_t (Or.inr z2), if_neg n1, lt_eq]
        · rw [bI_f (show ¬ (x < n ∧ 32 ≤ T x ∧ T x ≤ 32) by omega), if_pos n0, bI_t (show x < n ∧ 10 ≤ T x ∧ T x ≤ 10 by omega), if_neg n1, lt_eq]
      · right
        refine ⟨s, t, ?_, ?_, f1, f2, x, by omega, by omega, x1, x2⟩
        · rw [bI_f (show ¬ (T x = 32 ∨ T x = 10) by omega), if_pos n0]
        · rw [bI_f (show ¬ (x < n ∧ 32 ≤ T x ∧ T x ≤ 32) by omega), if_pos n0, bI_f (show ¬ (x < n ∧ 10 ≤ T x ∧ T x ≤ 10) by omega), if_pos n0]
  · obtain ⟨f1, f2, x1, x2⟩ := hi
    rw [show b + (n - b) = n by omega] at x1 x2
    have tc := TxC_f hc f1
    have tm := TxM_f hm f2
    have k2 := m_byte hT tm (x := n) (by omega) (lo := 32) (hi := 32) (by omega) (by omega)
    have k3 := m_byte hT tm (x := n) (by omega) (lo := 10) (hi := 10) (by omega) (by omega)
    unfold rd_step_b1 md_next_b1
    rw [x1, x2, tc.1, if_neg (Int.lt_irrefl _), k2, k3, bd_some, bd_some, bI_f (show ¬ (n < n ∧ 32 ≤ T n ∧ T n ≤ 32) by omega), if_pos n0, bI_f (show ¬ (n < n ∧ 10 ≤ T n ∧ T n ≤ 10) by omega), if_pos n0]
    exact ⟨s, t, rfl, rfl, f1, f2, n, by omega, by omega, x1, x2⟩
theorem s_word (hT : TxT T n) (hc : TxC T n c) (hm : TxM T n m) {b : Int} (hb : 0 ≤ b ∧ b < n) (e1 : c 1 4 = b) (e2 : m 167 7 = b) (e3 : m 167 11 = 0) (hl : 97 ≤ T b ∧ T b ≤ 122) : ∃ c' m', iter FU rd_stepOverWord_b1 c = some c' ∧ iter FU md_next_b3 (0, m) = some m' ∧ (FC c c' ∧ ∀ j, j ≠ 4 → c' 1 j = c 1 j) ∧ (FM m m' ∧ ∀ j, j ≠ 7 → j ≠ 11 → m' 167 j = m 167 j) ∧ ∃ x, b < x ∧ x ≤ n ∧ c' 1 4 = x ∧ m' 167 7 = x ∧ Wrd T b x (m' 167 11) ∧ ∀ j, b ≤ j → j < x → 97 ≤ T j ∧ T j ≤ 122 := by
  have hn := hT.1
  have n1 : ¬ wr 1 = 0 := by decide
  have n0 : wr 0 = 0 := rfl
  refine lp_two (fun i s t => (FC c s ∧ ∀ j, j ≠ 4 → s 1 j = c 1 j) ∧ (FM m t.2 ∧ ∀ j, j ≠ 7 → j ≠ 11 → t.2 167 j = m 167 j) ∧ t.1 = i ∧ s 1 4 = b + i ∧ t.2 167 7 = b + i ∧ Wrd T b (b + i) (t.2 167 11) ∧ ∀ j, b ≤ j → j < b + i → 97 ≤ T j ∧ T j ≤ 122) (n - b) (by omega) (by omega) ⟨⟨FC_rfl c, fun _ _ => rfl⟩, ⟨FM_rfl m, fun _ _ _ => rfl⟩, rfl, by omega, by dsimp only; omega, Or.inl ⟨by omega, by dsimp only; rw [e3, show b + 0 - b = 0 by omega]; rfl⟩, fun j a d => by omega⟩ (fun i s t a d hi => ?_) (fun s t hi => ?_)
  · obtain ⟨k, t⟩ := t
    obtain ⟨⟨f1, f1'⟩, ⟨f2, f2'⟩, q, x1, x2, x3, x4⟩ := hi
    dsimp only at f2 f2' q x2 x3
    subst q
    obtain ⟨x, ex⟩ : ∃ x, x = b + k := ⟨_, rfl⟩
    rw [← ex] at x1 x2 x3 x4
    have tc := TxC_f hc f1
    have tm := TxM_f hm f2
    have tx := hT.2 x (by omega) (by omega)
    have k1 := c_letter hT tc (x := x) (by omega)
    have k2 := m_byte hT tm (x := x) (by omega) (lo := 97) (hi := 122) (by omega) (by omega)
    have t1 : t 172 x = T x := tm.2 x (by omega) (by omega)
    simp only [rd_stepOverWord_b1, md_next_b3, x1, x2, tc.1]
    rw [w32 (show -1000000 ≤ x ∧ x ≤ 1000000 by omega), w32 (show -1000000 ≤ n ∧ n ≤ 1000000 by omega), w32 (show -1000000 ≤ k ∧ k ≤ 1000000 by omega), w32 (show -1000000 ≤ (11 : Int) ∧ (11 : Int) ≤ 1000000 by omega), if_pos (by omega), k1, k2, bd_some, bd_some]
    by_cases z1 : 97 ≤ T x ∧ T x ≤ 122
    · left
      rw [bI_t z1, if_neg n1, lt_eq, bI_t (show x < n ∧ 97 ≤ T x ∧ T x ≤ 122 by omega), if_neg n1, chk_t (by omega), t1, w32 (show -1000000 ≤ T x ∧ T x ≤ 1000000 by omega)]
      have lt' : ∀ j, b ≤ j → j < b + (k + 1) → 97 ≤ T j ∧ T j ≤ 122 := fun j h1 h2 => by
        by_cases w : j = x
        · rw [w]; exact z1
        · exact x4 j h1 (by omega)
      by_cases z2 : 11 < k
      · refine ⟨up s 1 4 (x + 1), (k + 1, up (up (up t 167 11 (-1)) 167 11 (-1)) 167 7 (x + 1)), rfl, ?_, ⟨FC_up f1 (by omega), fun j hj => by rw [up_ni hj]; exact f1' j hj⟩, ⟨FM_up (FM_up (FM_up f2 (by omega)) (by omega)) (by omega), fun j h1 h2 => by dsimp only; rw [up_ni h1, up_ni h2, up_ni h2]; exact f2' j h1 h2⟩, rfl, by rw [up_eq]; omega, by dsimp only; rw [up_eq]; omega, ?_, lt'⟩
        · rw [if_pos z2, bd_some, lt_eq, if_pos z2, lt_eq, bd_some, lt_eq, up_ni (by omega), up_ni (by omega), x2]
        · dsimp only
          rw [up_ni (by omega), up_eq]
          exact Or.inr ⟨by omega, rfl⟩
      · refine ⟨up s 1 4 (x + 1), (k + 1, up (up t 167 11 (27 * t 167 11 + T x - 96)) 167 7 (x + 1)), rfl, ?_, ⟨FC_up f1 (by omega), fun j hj => by rw [up_ni hj]; exact f1' j hj⟩, ⟨FM_up (FM_up f2 (by omega)) (by omega), fun j h1 h2 => by dsimp only; rw [up_ni h1, up_ni h2]; exact f2' j h1 h2⟩, rfl, by rw [up_eq]; omega, by dsimp only; rw [up_eq]; omega, ?_, lt'⟩
        · rw [if_neg z2, bd_some, lt_eq, if_neg z2, bd_some, lt_eq, up_ni (by omega), x2]
        · dsimp only
          rw [up_ni (by omega), up_eq]
          refine Or.inl ⟨by omega, ?_⟩
          rcases x3 with y | y
          · rw [show b + (k + 1) - b = k + 1 by omega, EnI_succ T b a, ← ex, y.2, show x - b = k by omega]
          · omega
    · right
      refine ⟨s, t, ?_, ?_, ⟨f1, f1'⟩, ⟨f2, f2'⟩, x, ?_, by omega, x1, x2, x3, x4⟩
      · rw [bI_f z1, if_pos n0]
      · rw [bI_f (show ¬ (x < n ∧ 97 ≤ T x ∧ T x ≤ 122) from fun y => z1 y.2), if_pos n0]
      · by_cases w : x = b
        · rw [w] at z1; exact absurd hl z1
        · omega
  · obtain ⟨k, t⟩ := t
    obtain ⟨⟨f1, f1'⟩, ⟨f2, f2'⟩, q, x1, x2, x3, x4⟩ := hi
    dsimp only at f2 f2' q x2 x3
    rw [show b + (n - b) = n by omega] at x1 x2 x3 x4
    have tc := TxC_f hc f1
    have tm := TxM_f hm f2
    have k2 := m_byte hT tm (x := n) (by omega) (lo := 97) (hi := 122) (by omega) (by omega)
    simp only [rd_stepOverWord_b1, md_next_b3, x1, x2, tc.1]
    rw [if_neg (Int.lt_irrefl _), k2, bd_some, bI_f (show ¬ (n < n ∧ 97 ≤ T n ∧ T n ≤ 122) by omega), if_pos n0]
    exact ⟨s, t, rfl, rfl, ⟨f1, f1'⟩, ⟨f2, f2'⟩, n, by omega, by omega, x1, x2, x3, x4⟩
theorem s_num (hT : TxT T n) (hc : TxC T n c) (hm : TxM T n m) {b : Int} (hb : 0 ≤ b ∧ b < n) (e1 : c 1 4 = b) (e2 : m 167 7 = b) (e3 : m 167 10 = 0) (e4 : c 1 7 = 0) (hl : 48 ≤ T b ∧ T b ≤ 57) : ∃ c' m', iter FU rd_stepOverNumber_b1 c = some c' ∧ iter FU md_next_b2 m = some m' ∧ (FC c c' ∧ ∀ j, j ≠ 4 → j ≠ 7 → c' 1 j = c 1 j) ∧ (FM m m' ∧ ∀ j, j ≠ 7 → j ≠ 10 → m' 167 j = m 167 j) ∧ ∃ x, b < x ∧ x ≤ n ∧ c' 1 4 = x ∧ m' 167 7 = x ∧ Nu (c' 1 7) (m' 167 10) := by
  have hn := hT.1
  have n1 : ¬ wr 1 = 0 := by decide
  have n0 : wr 0 = 0 := rfl
  refine lp_two (fun i s t => (FC c s ∧ ∀ j, j ≠ 4 → j ≠ 7 → s 1 j = c 1 j) ∧ (FM m t ∧ ∀ j, j ≠ 7 → j ≠ 10 → t 167 j = m 167 j) ∧ s 1 4 = b + i ∧ t 167 7 = b + i ∧ Nu (s 1 7) (t 167 10)) (n - b) (by omega) (by omega) ⟨⟨FC_rfl c, fun _ _ _ => rfl⟩, ⟨FM_rfl m, fun _ _ _ => rfl⟩, by omega, by omega, Or.inl ⟨by omega, by omega, by omega⟩⟩ (fun i s t a d hi => ?_) (fun s t hi => ?_)
  · obtain ⟨⟨f1, f1'⟩, ⟨f2, f2'⟩, x1, x2, x3⟩ := hi
    obtain ⟨x, ex⟩ : ∃ x, x = b + i := ⟨_, rfl⟩
    rw [← ex] at x1 x2
    have tc := TxC_f hc f1
    have tm := TxM_f hm f2
    have tx := hT.2 x (by omega) (by omega)
    have k1 := c_digit hT tc (x := x) (by omega)
    have k2 := m_byte hT tm (x := x) (by omega) (lo := 48) (hi := 57) (by omega) (by omega)
    have t1 : t 172 x = T x := tm.2 x (by omega) (by omega)
    have t2 : s 2 x = T x := tc.2 x (by omega) (by omega)
    have vi : 0 ≤ s 1 7 ∧ s 1 7 ≤ 1000 := by rcases x3 with y | y <;> omega
    have wi : 0 ≤ t 167 10 ∧ t 167 10 ≤ 1000009 := by rcases x3 with y | y <;> omega
    unfold rd_stepOverNumber_b1 md_next_b2
    rw [x1, x2, tc.1, w32 (show -1000000 ≤ x ∧ x ≤ 1000000 by omega), w32 (show -1000000 ≤ n ∧ n ≤ 1000000 by omega), wr_id (show -2147483648 ≤ t 167 10 ∧ t 167 10 < 2147483648 by omega), w32 (show -1000000 ≤ (100000 : Int) ∧ (100000 : Int) ≤ 1000000 by omega), if_pos (by omega), k1, k2, bd_some, bd_some]
    by_cases z1 : 48 ≤ T x ∧ T x ≤ 57
    · left
      rw [bI_t z1, if_neg n1, bI_t (show x < n ∧ 48 ≤ T x ∧ T x ≤ 57 by omega), if_neg n1, chk_t (by omega), chk_t (by omega), t1, t2]
      obtain ⟨A, eA⟩ : ∃ A, A = imin (s 1 7 * 10 + T x - 48) 1000 := ⟨_, rfl⟩
      have eA' : A = if 1000 < s 1 7 * 10 + T x - 48 then 1000 else s 1 7 * 10 + T x - 48 := by
        rw [eA]; unfold imin
        rw [w32 (show -1000000 ≤ s 1 7 * 10 + T x - 48 ∧ s 1 7 * 10 + T x - 48 ≤ 1000000 by omega), w32 (show -1000000 ≤ (1000 : Int) ∧ (1000 : Int) ≤ 1000000 by omega)]
      obtain ⟨B, eB⟩ : ∃ B : Int, (if 100000 < t 167 10 then some 1000000 else some (10 * t 167 10 + T x - 48) : Option Int) = some B ∧ (B = if 100000 < t 167 10 then 1000000 else 10 * t 167 10 + T x - 48) := by
        by_cases z : 100000 < t 167 10
        · exact ⟨1000000, by rw [if_pos z], by rw [if_pos z]⟩
        · exact ⟨10 * t 167 10 + T x - 48, by rw [if_neg z], by rw [if_neg z]⟩
      refine ⟨up (up s 1 7 A) 1 4 (x + 1), up (up t 167 10 B) 167 7 (x + 1), ?_, ?_, ⟨FC_up (FC_up f1 (by omega)) (by omega), fun j h1 h2 => by rw [up_ni h1, up_ni h2]; exact f1' j h1 h2⟩, ⟨FM_up (FM_up f2 (by omega)) (by omega), fun j h1 h2 => by rw [up_ni h1, up_ni h2]; exact f2' j h1 h2⟩, by rw [up_eq]; omega, by rw [up_eq]; omega, ?_⟩
      · rw [lt_eq, lt_eq, ← eA, up_ni (by omega), x1]
      · rw [eB.1, bd_some, lt_eq, lt_eq, up_ni (by omega), x2]
      · rw [up_ni (by omega), up_eq, up_ni (by omega), up_eq, eA', eB.2]
        unfold Nu
        rcases x3 with y | y
        · rw [if_neg (show ¬ 100000 < t 167 10 by omega)]
          by_cases w : 1000 < s 1 7 * 10 + T x - 48
          · rw [if_pos w]; right; omega
          · rw [if_neg w]
            by_cases w2 : s 1 7 * 10 + T x - 48 = 1000
            · right; omega
            · left; omega
        · rw [if_pos (show 1000 < s 1 7 * 10 + T x - 48 by omega)]
          right
          split <;> omega
    · right
      refine ⟨s, t, ?_, ?_, ⟨f1, f1'⟩, ⟨f2, f2'⟩, x, ?_, by omega, x1, x2, x3⟩
      · rw [bI_f z1, if_pos n0]
      · rw [bI_f (show ¬ (x < n ∧ 48 ≤ T x ∧ T x ≤ 57) from fun y => z1 y.2), if_pos n0]
      · by_cases w : x = b
        · rw [w] at z1; exact absurd hl z1
        · omega
  · obtain ⟨⟨f1, f1'⟩, ⟨f2, f2'⟩, x1, x2, x3⟩ := hi
    rw [show b + (n - b) = n by omega] at x1 x2
    have tc := TxC_f hc f1
    have tm := TxM_f hm f2
    have k2 := m_byte hT tm (x := n) (by omega) (lo := 48) (hi := 57) (by omega) (by omega)
    unfold rd_stepOverNumber_b1 md_next_b2
    rw [x1, x2, tc.1, if_neg (Int.lt_irrefl _), k2, bd_some, bI_f (show ¬ (n < n ∧ 48 ≤ T n ∧ T n ≤ 57) by omega), if_pos n0]
    exact ⟨s, t, rfl, rfl, ⟨f1, f1'⟩, ⟨f2, f2'⟩, n, by omega, by omega, x1, x2, x3⟩
/-- a token, by both; b: where the one before it ended -/
def Tk (T : Int → Int) (n b : Int) (c m : Hp) : Prop := c 1 4 = m 167 7 ∧ c 1 5 = m 167 9 ∧ c 1 6 = m 167 8 ∧ (b ≤ c 1 5 ∧ c 1 5 ≤ c 1 4 ∧ c 1 4 ≤ n) ∧ (c 1 6 = 0 ∨ (1 ≤ c 1 6 ∧ c 1 6 ≤ 4 ∧ c 1 5 < c 1 4)) ∧ (c 1 6 = 2 → Nu (c 1 7) (m 167 10)) ∧ (c 1 6 = 1 → Wrd T (c 1 5) (c 1 4) (m 167 11) ∧ ∀ j, c 1 5 ≤ j → j < c 1 4 → 97 ≤ T j ∧ T j ≤ 122)
theorem s_step (hT : TxT T n) (hc : TxC T n c) (hm : TxM T n m) {b : Int} (hb : 0 ≤ b ∧ b ≤ n) (e1 : c 1 4 = b) (e2 : m 167 7 = b) : ∃ c' m', rd_step c = some c' ∧ md_next m = some m' ∧ FC c c' ∧ FM m m' ∧ Tk T n b c' m' := by
  have hn := hT.1
  have n1 : ¬ wr 1 = 0 := by decide
  have n0 : wr 0 = 0 := rfl
  obtain ⟨s, t, k1, k2, f1, f2, x, x1, x2, x3, x4⟩ := s_blank hT hc hm hb e1 e2
  obtain ⟨s1, es1⟩ : ∃ s1, s1 = up s 1 5 x := ⟨_, rfl⟩
  obtain ⟨t1, et1⟩ : ∃ t1, t1 = up (up (up t 167 9 x) 167 10 0) 167 11 0 := ⟨_, rfl⟩
  have g1 : FC c s1 := by rw [es1]; exact FC_up f1 (by omega)
  have g2 : FM m t1 := by rw [et1]; exact FM_up (FM_up (FM_up f2 (by omega)) (by omega)) (by omega)
  have tc := TxC_f hc g1
  have tm := TxM_f hm g2
  have a4 : s1 1 4 = x := by rw [es1, up_ni (by omega)]; exact x3
  have a5 : s1 1 5 = x := by rw [es1, up_eq]
  have b7 : t1 167 7 = x := by rw [et1, up_ni (by omega), up_ni (by omega), up_ni (by omega)]; exact x4
  have b9 : t1 167 9 = x := by rw [et1, up_ni (by omega), up_ni (by omega), up_eq]
  have b10 : t1 167 10 = 0 := by rw [et1, up_ni (by omega), up_eq]
  have b11 : t1 167 11 = 0 := by rw [et1, up_eq]
  have eC : rd_step c = Option.bind (if n ≤ x then lt (up s1 (1) 6 (0)) (fun h9 => some (h9)) else Option.bind (rd_isLetter s1 x) (fun r10 => if wr (r10) = 0 then Option.bind (rd_isDigit s1 x) (fun r12 => if wr (r12) = 0 then chk (0 ≤ x ∧ x < 800) (lt (up s1 (1) 6 ((if wr (s1 2 x) = wr (59) then 3 else 4))) (fun h16 => lt (up h16 (1) 4 ((h16 (1) 4) + (1))) (fun h17 => some (h17)))) else Option.bind (rd_stepOverNumber s1) (fun r18 => some (r18))) else Option.bind (rd_stepOverWord s1) (fun r19 => some (r19)))) (fun s20 : Hp => some (s20)) := by
    unfold rd_step
    rw [k1, bd_some, lt_eq, x3, ← es1, a5, tc.1, w32 (show -1000000 ≤ x ∧ x ≤ 1000000 by omega), w32 (show -1000000 ≤ n ∧ n ≤ 1000000 by omega)]
  have eM : md_next m = Option.bind (if x = n then lt (up t1 (167) 8 (0)) (fun h13 => some (h13)) else Option.bind (md_isByte t1 x (97) (122)) (fun r14 => if wr (r14) = 0 then Option.bind (md_isByte t1 x (48) (57)) (fun r16 => if wr (r16) = 0 then chk (0 ≤ x ∧ x < 800) (lt (up t1 (167) 8 ((if wr (t1 172 x) = wr (59) then 3 else 4))) (fun h20 => lt (up h20 (167) 7 ((h20 (167) 7) + (1))) (fun h21 => some (h21)))) else lt (up t1 (167) 8 (2)) (fun h22 => Option.bind (iter FU (md_next_b2) (h22)) (fun s31 => some (s31)))) else lt (up t1 (167) 8 (1)) (fun h32 => Option.bind (iter FU (md_next_b3) (0, h32)) (fun s44 => some (s44))))) (fun s45 : Hp => some (s45)) := by
    unfold md_next
    rw [k2, bd_some, lt_eq, lt_eq, lt_eq, x4, ← et1, b7, tm.1, w32 (show -1000000 ≤ x ∧ x ≤ 1000000 by omega), w32 (show -1000000 ≤ n ∧ n ≤ 1000000 by omega)]
  rw [eC, eM]
  by_cases z0 : x = n
  · rw [if_pos (by omega), if_pos z0, lt_eq, lt_eq, bd_some, bd_some]
    refine ⟨_, _, rfl, rfl, FC_up g1 (by omega), FM_up g2 (by omega), ?_⟩
    unfold Tk
    rw [up_eq, up_eq, up_ni (by omega), up_ni (by omega), up_ni (by omega), up_ni (by omega), a4, a5, b7, b9]
    exact ⟨rfl, rfl, rfl, by omega, Or.inl rfl, fun q => absurd q (by decide), fun q => absurd q (by decide)⟩
  · rw [if_neg (by omega), if_neg z0, c_letter hT tc (x := x) (by omega), bd_some, m_byte hT tm (x := x) (by omega) (by omega) (by omega), bd_some]
    by_cases z1 : 97 ≤ T x ∧ T x ≤ 122
    · rw [bI_t z1, if_neg n1, bI_t (show x < n ∧ 97 ≤ T x ∧ T x ≤ 122 by omega), if_neg n1, lt_eq]
      obtain ⟨c', m', k3, k4, ⟨f3, f3'⟩, ⟨f4, f4'⟩, y, y1, y2, y3, y4, y5, y6⟩ := s_word (c := up s1 1 6 1) (m := up t1 167 8 1) hT (TxC_f tc (FC_up (FC_rfl _) (by omega))) (TxM_f tm (FM_up (FM_rfl _) (by omega))) (b := x) (by omega) (by rw [up_ni (by omega)]; exact a4) (by rw [up_ni (by omega)]; exact b7) (by rw [up_ni (by omega)]; exact b11) z1
      unfold rd_stepOverWord
      rw [lt_eq, k3, k4, bd_some, bd_some, bd_some, bd_some, bd_some]
      refine ⟨c', m', rfl, rfl, FC_tr (FC_up g1 (by omega)) f3, FM_tr (FM_up g2 (by omega)) f4, ?_⟩
      have c5 : c' 1 5 = x := by rw [f3' 5 (by omega), up_ni (by omega)]; exact a5
      have c6 : c' 1 6 = 1 := by rw [f3' 6 (by omega), up_eq]
      have m9 : m' 167 9 = x := by rw [f4' 9 (by omega) (by omega), up_ni (by omega)]; exact b9
      have m8 : m' 167 8 = 1 := by rw [f4' 8 (by omega) (by omega), up_eq]
      unfold Tk
      rw [y3, y4, c5, c6, m9, m8]
      exact ⟨rfl, rfl, rfl, by omega, Or.inr (by omega), fun q => absurd q (by decide), fun _ => ⟨y5, y6⟩⟩
    · rw [bI_f z1, if_pos n0, bI_f (show ¬ (x < n ∧ 97 ≤ T x ∧ T x ≤ 122) from fun y => z1 y.2), if_pos n0, c_digit hT tc (x := x) (by omega), bd_some, m_byte hT tm (x := x) (by omega) (by omega) (by omega), bd_some]
      by_cases z2 : 48 ≤ T x ∧ T x ≤ 57
      · rw [bI_t z2, if_neg n1, bI_t (show x < n ∧ 48 ≤ T x ∧ T x ≤ 57 by omega), if_neg n1, lt_eq]
        obtain ⟨c', m', k3, k4, ⟨f3, f3'⟩, ⟨f4, f4'⟩, y, y1, y2, y3, y4, y5⟩ := s_num (c := up (up s1 1 6 2) 1 7 0) (m := up t1 167 8 2) hT (TxC_f tc (FC_up (FC_up (FC_rfl _) (by omega)) (by omega))) (TxM_f tm (FM_up (FM_rfl _) (by omega))) (b := x) (by omega) (by rw [up_ni (by omega), up_ni (by omega)]; exact a4) (by rw [up_ni (by omega)]; exact b7) (by rw [up_ni (by omega)]; exact b10) (by rw [up_eq]) z2
        unfold rd_stepOverNumber
        rw [lt_eq, lt_eq, k3, k4, bd_some, bd_some, bd_some, bd_some, bd_some]
        refine ⟨c', m', rfl, rfl, FC_tr (FC_up (FC_up g1 (by omega)) (by omega)) f3, FM_tr (FM_up g2 (by omega)) f4, ?_⟩
        have c5 : c' 1 5 = x := by rw [f3' 5 (by omega) (by omega), up_ni (by omega), up_ni (by omega)]; exact a5
        have c6 : c' 1 6 = 2 := by rw [f3' 6 (by omega) (by omega), up_ni (by omega), up_eq]
        have m9 : m' 167 9 = x := by rw [f4' 9 (by omega) (by omega), up_ni (by omega)]; exact b9
        have m8 : m' 167 8 = 2 := by rw [f4' 8 (by omega) (by omega), up_eq]
        unfold Tk
        rw [y3, y4, c5, c6, m9, m8]
        exact ⟨rfl, rfl, rfl, by omega, Or.inr (by omega), fun _ => y5, fun q => absurd q (by decide)⟩
      · rw [bI_f z2, if_pos n0, bI_f (show ¬ (x < n ∧ 48 ≤ T x ∧ T x ≤ 57) from fun y => z2 y.2), if_pos n0, chk_t (by omega), chk_t (by omega), tc.2 x (by omega) (by omega), tm.2 x (by omega) (by omega)]
        obtain ⟨v, ev, v34⟩ : ∃ v : Int, v = (if wr (T x) = wr 59 then 3 else 4) ∧ (3 ≤ v ∧ v ≤ 4) := ⟨_, rfl, by split <;> omega⟩
        rw [← ev, lt_eq, lt_eq, lt_eq, lt_eq, bd_some, bd_some]
        refine ⟨_, _, rfl, rfl, FC_up (FC_up g1 (by omega)) (by omega), FM_up (FM_up g2 (by omega)) (by omega), ?_⟩
        have c4 : up (up s1 1 6 v) 1 4 (up s1 1 6 v 1 4 + 1) 1 4 = x + 1 := by rw [up_eq, up_ni (by omega), a4]
        have c5 : up (up s1 1 6 v) 1 4 (up s1 1 6 v 1 4 + 1) 1 5 = x := by rw [up_ni (by omega), up_ni (by omega), a5]
        have c6 : up (up s1 1 6 v) 1 4 (up s1 1 6 v 1 4 + 1) 1 6 = v := by rw [up_ni (by omega), up_eq]
        have m7 : up (up t1 167 8 v) 167 7 (up t1 167 8 v 167 7 + 1) 167 7 = x + 1 := by rw [up_eq, up_ni (by omega), b7]
        have m9 : up (up t1 167 8 v) 167 7 (up t1 167 8 v 167 7 + 1) 167 9 = x := by rw [up_ni (by omega), up_ni (by omega), b9]
        have m8 : up (up t1 167 8 v) 167 7 (up t1 167 8 v 167 7 + 1) 167 8 = v := by rw [up_ni (by omega), up_eq]
        unfold Tk
        rw [c4, c5, c6, m7, m8, m9]
        exact ⟨rfl, rfl, rfl, by omega, Or.inr (by omega), fun q => by omega, fun q => by omega⟩
end
