/-! Layer 2: chance, mean -/
def eu : Nat → Int → Int → Option Int
  | 0, _, _ => none
  | n + 1, a, b => if b = 0 then some a else eu n b (a % b)
theorem gcd_step {a b : Int} (ha : 0 ≤ a) (hb : 0 ≤ b) : Nat.gcd a.toNat b.toNat = Nat.gcd b.toNat (a % b).toNat := by
  rw [Int.toNat_emod ha hb, Nat.gcd_comm a.toNat, Nat.gcd_rec b.toNat, Nat.gcd_comm]
theorem eu_ok : ∀ (k : Nat) (a b : Int), 0 ≤ a → 0 ≤ b → b < 2 ^ k → ∀ n, 2 * k + 1 ≤ n → eu n a b = some ((Nat.gcd a.toNat b.toNat : Nat) : Int) := by
  intro k
  induction k with
  | zero =>
    intro a b ha hb hk n hn
    obtain ⟨m, em⟩ : ∃ m, n = m + 1 := ⟨n - 1, by omega⟩
    have b0 : b = 0 := by simp at hk; omega
    subst em
    unfold eu
    rw [if_pos b0, b0, show (0 : Int).toNat = 0 from rfl, Nat.gcd_zero_right]
    congr 1; omega
  | succ k ih =>
    intro a b ha hb hk n hn
    obtain ⟨m, em⟩ : ∃ m, n = m + 2 := ⟨n - 2, by omega⟩
    subst em
    unfold eu
    by_cases b0 : b = 0
    · rw [if_pos b0, b0, show (0 : Int).toNat = 0 from rfl, Nat.gcd_zero_right]
      congr 1; omega
    · rw [if_neg b0]
      unfold eu
      have r1 := Int.emod_nonneg a b0
      have r2 := Int.emod_lt_of_pos a (show 0 < b by omega)
      rw [gcd_step ha hb]
      generalize a % b = r at r1 r2
      by_cases r0 : r = 0
      · rw [if_pos r0, r0, show (0 : Int).toNat = 0 from rfl, Nat.gcd_zero_right]
        congr 1; omega
      · rw [if_neg r0, gcd_step hb r1]
        have s1 := Int.emod_nonneg b r0
        have s2 := Int.emod_lt_of_pos b (show 0 < r by omega)
        have s3 : b % r < 2 ^ k := by
          rw [Int.pow_succ] at hk
          by_cases z : 2 * r ≤ b
          · omega
          · have e : b % r = b - r := by
              have := Int.emod_add_mul_ediv b r
              have q : b / r = 1 := by
                have h1 : b / r < 2 := Int.ediv_lt_of_lt_mul (by omega) (by omega)
                have h2 : 1 ≤ b / r := Int.le_ediv_of_mul_le (by omega) (by omega)
                omega
              rw [q, Int.mul_one] at this
              omega
            omega
        exact ih r (b % r) r1 s1 s3 m (by omega)
theorem eu_20 {a b : Int} (ha : 0 ≤ a) (hb : 0 ≤ b ∧ b < 1000000) {n : Nat} (hn : 41 ≤ n) : eu n a b = some ((Nat.gcd a.toNat b.toNat : Nat) : Int) :=
  eu_ok 20 a b ha hb.1 (by
    have : (2 : Int) ^ 20 = 1048576 := by decide
    omega) n (by omega)
theorem wr_of {a : Int} (h : -2147483648 ≤ a ∧ a < 2147483648) : (Int32.ofInt a).toInt = a := wr_id h
theorem wl_of {a : Int} (h : -9223372036854775808 ≤ a ∧ a < 9223372036854775808) : (Int64.ofInt a).toInt = a := wl_id h
theorem idv_id {a b : Int} (ha : 0 ≤ a ∧ a < 2147483648) (hb : 0 < b ∧ b < 2147483648) : idv a b = a / b := by
  have h1 : 0 ≤ a / b := Int.ediv_nonneg ha.1 (by omega)
  have h2 : a / b ≤ a := Int.ediv_le_self b ha.1
  unfold idv
  rw [Int32.toInt_div, wr_of (by omega), wr_of (by omega), Int.tdiv_eq_ediv_of_nonneg ha.1]
  exact Int.bmod_eq_of_le (by omega) (by omega)
theorem irm_id {a b : Int} (ha : 0 ≤ a ∧ a < 2147483648) (hb : 0 < b ∧ b < 2147483648) : irm a b = a % b := by
  have h0 : (Int32.ofInt a / Int32.ofInt b).toInt = a / b := idv_id ha hb
  have h1 := Int.emod_nonneg a (show b ≠ 0 by omega)
  have h2 := Int.emod_lt_of_pos a hb.1
  have h3 := Int.emod_add_mul_ediv a b
  have h4 : 0 ≤ b * (a / b) := Int.mul_nonneg (by omega) (Int.ediv_nonneg ha.1 (by omega))
  unfold irm
  rw [Int32.toInt_sub, Int32.toInt_mul, h0, wr_of (by omega), wr_of (by omega), Int.mul_comm]
  generalize b * (a / b) = q at h3 h4
  rw [show q.bmod (2 ^ 32) = q from Int.bmod_eq_of_le (by omega) (by omega), show (a - q).bmod (2 ^ 32) = a - q from Int.bmod_eq_of_le (by omega) (by omega)]
  omega
theorem ldv_id {a b : Int} (ha : 0 ≤ a ∧ a < 9223372036854775808) (hb : 0 < b ∧ b < 9223372036854775808) : ldv a b = a / b := by
  have h1 : 0 ≤ a / b := Int.ediv_nonneg ha.1 (by omega)
  have h2 : a / b ≤ a := Int.ediv_le_self b ha.1
  unfold ldv
  rw [Int64.toInt_div, wl_of (by omega), wl_of (by omega), Int.tdiv_eq_ediv_of_nonneg ha.1]
  exact Int.bmod_eq_of_le (by omega) (by omega)
theorem lrm_id {a b : Int} (ha : 0 ≤ a ∧ a < 9223372036854775808) (hb : 0 < b ∧ b < 9223372036854775808) : lrm a b = a % b := by
  have h0 : (Int64.ofInt a / Int64.ofInt b).toInt = a / b := ldv_id ha hb
  have h1 := Int.emod_nonneg a (show b ≠ 0 by omega)
  have h2 := Int.emod_lt_of_pos a hb.1
  have h3 := Int.emod_add_mul_ediv a b
  have h4 : 0 ≤ b * (a / b) := Int.mul_nonneg (by omega) (Int.ediv_nonneg ha.1 (by omega))
  unfold lrm
  rw [Int64.toInt_sub, Int64.toInt_mul, h0, wl_of (by omega), wl_of (by omega), Int.mul_comm]
  generalize b * (a / b) = q at h3 h4
  rw [show q.bmod (2 ^ 64) = q from Int.bmod_eq_of_le (by omega) (by omega), show (a - q).bmod (2 ^ 64) = a - q from Int.bmod_eq_of_le (by omega) (by omega)]
  omega
theorem land_id {z : Int} (hz : 0 ≤ z ∧ z < 9223372036854775808) : land64 z 2147483647 = z % 2147483648 := by
  have h : (BitVec.ofInt 64 z &&& BitVec.ofInt 64 2147483647).toNat = z.toNat % 2 ^ 31 := by
    rw [BitVec.toNat_and, BitVec.toNat_ofInt, BitVec.toNat_ofInt, show ((2147483647 : Int) % ((2 ^ 64 : Nat) : Int)).toNat = 2 ^ 31 - 1 by decide, Nat.and_two_pow_sub_one_eq_mod]
    congr 1
    omega
  show (BitVec.ofInt 64 z &&& BitVec.ofInt 64 2147483647).toInt = _
  rw [BitVec.toInt_eq_toNat_of_lt (by rw [h]; omega), h]
  omega
/-! the common divisor -/
theorem m_common (h : Hp) : ∀ (n : Nat) (a b : Int), (0 ≤ a ∧ a < 1000000) → (0 ≤ b ∧ b < 1000000) → md_common n h a b = eu n a b := by
  intro n
  induction n with
  | zero => intro a b _ _; rfl
  | succ n ih =>
    intro a b ha hb
    show md_common_st (md_common n) h a b = _
    unfold md_common_st eu
    rw [w32 (show -1000000 ≤ b ∧ b ≤ 1000000 by omega)]
    by_cases z : b = 0
    · rw [if_pos z, if_pos z, bd_some]
    · have h1 := Int.emod_nonneg a z
      have h2 := Int.emod_lt_of_pos a (show 0 < b by omega)
      rw [if_neg z, if_neg z, chk_t z, irm_id (by omega) (by omega), ih b (a % b) hb (by omega)]
      cases eu n b (a % b) <;> rfl
theorem c_common : ∀ (n : Nat) (a b i g : Int), eu n a b = some g → (0 ≤ a ∧ a < 1000000) → (0 ≤ b ∧ b < 1000000) → 0 ≤ i → i + n ≤ 65 → ∀ f, n < f → iter f sg_reduced_b1 (a, b, i) = some g := by
  intro n
  induction n with
  | zero => intro a b i g e; cases e
  | succ n ih =>
    intro a b i g e ha hb hi hn f hf
    obtain ⟨f', ef⟩ : ∃ f', f = f' + 1 := ⟨f - 1, by omega⟩
    subst ef
    unfold eu at e
    unfold iter sg_reduced_b1
    dsimp only
    rw [w32 (show -1000000 ≤ i ∧ i ≤ 1000000 by omega), w32 (show -1000000 ≤ b ∧ b ≤ 1000000 by omega), show wr 64 = 64 from rfl]
    by_cases z : b = 0
    · rw [if_pos z] at e
      rw [if_pos z]
      have := Option.some.inj e
      subst this
      by_cases z2 : i < 64
      · rw [if_pos z2]
      · rw [if_neg z2]
    · rw [if_neg z] at e
      have n1 : 1 ≤ n := by
        cases n with
        | zero => cases e
        | succ n => omega
      have h1 := Int.emod_nonneg a z
      have h2 := Int.emod_lt_of_pos a (show 0 < b by omega)
      rw [if_pos (show i < 64 by omega), if_neg z, chk_t z, irm_id (by omega) (by omega)]
      exact ih b (a % b) (i + 1) g e hb (by omega) (by omega) (by omega) f' (by omega)
def gdI (x : Int) : Int := ((Nat.gcd 100000 x.toNat : Nat) : Int)
theorem gdI_in (x : Int) : 1 ≤ gdI x ∧ gdI x ≤ 100000 := by
  have h1 := Nat.gcd_pos_of_pos_left x.toNat (show 0 < 100000 by omega)
  have h2 := Nat.gcd_le_left x.toNat (show 0 < 100000 by omega)
  unfold gdI
  omega
def rdI (x w : Int) : Int := if w = 0 then x / gdI x else 100000 / gdI x
theorem c_reduced (h : Hp) {x w : Int} (hx : 0 ≤ x ∧ x < 1000000) (hw : 0 ≤ w ∧ w ≤ 1) : sg_reduced h x w = some (rdI x w) := by
  have e := eu_20 (a := 100000) (b := x) (by omega) hx (n := 60) (by omega)
  have e1 := c_common 60 100000 x 0 _ e (by omega) hx (by omega) (by omega) FU (by unfold FU; omega)
  have gi := gdI_in x
  have ee : ((Nat.gcd (100000 : Int).toNat x.toNat : Nat) : Int) = gdI x := rfl
  rw [ee] at e1
  unfold sg_reduced rdI
  rw [e1, bd_some, w32 (show -1000000 ≤ gdI x ∧ gdI x ≤ 1000000 by omega), show wr 1 = 1 from rfl, if_neg (by omega), w32 (show -1000000 ≤ w ∧ w ≤ 1000000 by omega)]
  by_cases z : w = 0
  · rw [if_pos z, if_pos z, chk_t (by omega), bd_some, idv_id (by omega) (by omega)]
  · rw [if_neg z, if_neg z, chk_t (by omega), bd_some, idv_id (by omega) (by omega)]
theorem m_partR (h : Hp) {x w : Int} (hx : 0 ≤ x ∧ x < 1000000) (hw : 0 ≤ w ∧ w ≤ 1) : md_part h x 100000 w = some (rdI x w) := by
  have e := eu_20 (a := x) (b := 100000) hx.1 (by omega) (n := 64) (by omega)
  have gi := gdI_in x
  have ee : ((Nat.gcd x.toNat (100000 : Int).toNat : Nat) : Int) = gdI x := by unfold gdI; rw [Nat.gcd_comm]; rfl
  rw [ee] at e
  unfold md_part rdI
  rw [m_common h 64 x 100000 hx (by omega), e, bd_some, w32 (show -1000000 ≤ gdI x ∧ gdI x ≤ 1000000 by omega), chk_t (by omega), w32 (show -1000000 ≤ w ∧ w ≤ 1000000 by omega)]
  by_cases z : w = 0
  · rw [if_pos z, if_pos z, idv_id (by omega) (by omega)]
  · rw [if_neg z, if_neg z, idv_id (by omega) (by omega)]
/-! the weight to be bare -/
def pvI (o c : Int) : Int := o ^ c.toNat * 10 ^ (5 - c.toNat)
theorem pv_c : ∀ o : Fin 11, ∀ c : Fin 6, iter FU (sg_partsBare_b1 ((o : Nat) : Int) ((c : Nat) : Int)) (100000, 0) = some (pvI ((o : Nat) : Int) ((c : Nat) : Int)) := by decide +kernel
theorem pv_m : ∀ o : Fin 11, ∀ c : Fin 6, Option.bind (iter FU (md_bareWeight_b1 (fun _ _ => ((o : Nat) : Int)) ((c : Nat) : Int)) (1, 0)) (fun s8 => Option.bind (md_tens 8 (fun _ _ => 0) (5 - ((c : Nat) : Int))) (fun r9 => some (s8 * r9))) = some (pvI ((o : Nat) : Int) ((c : Nat) : Int)) := by decide +kernel
theorem pv_in' : ∀ o : Fin 11, ∀ c : Fin 6, 0 ≤ pvI ((o : Nat) : Int) ((c : Nat) : Int) ∧ pvI ((o : Nat) : Int) ((c : Nat) : Int) ≤ 100000 := by decide +kernel
theorem m_tens_h : ∀ (n : Nat) (h h' : Hp) (x : Int), md_tens n h x = md_tens n h' x := by
  intro n
  induction n with
  | zero => intro h h' x; rfl
  | succ n ih =>
    intro h h' x
    show md_tens_st (md_tens n) h x = md_tens_st (md_tens n) h' x
    unfold md_tens_st
    rw [ih h h' (x - 1)]
theorem pvC {o c : Int} (ho : 0 ≤ o ∧ o ≤ 10) (hc : 0 ≤ c ∧ c ≤ 5) : iter FU (sg_partsBare_b1 o c) (100000, 0) = some (pvI o c) := by
  have := pv_c ⟨o.toNat, by omega⟩ ⟨c.toNat, by omega⟩
  dsimp only at this
  rw [show ((o.toNat : Nat) : Int) = o by omega, show ((c.toNat : Nat) : Int) = c by omega] at this
  exact this
theorem pvM {h : Hp} {o c : Int} (ho : 0 ≤ o ∧ o ≤ 10) (hc : 0 ≤ c ∧ c ≤ 5) (h3 : h 174 3 = o) : Option.bind (iter FU (md_bareWeight_b1 h c) (1, 0)) (fun s8 => Option.bind (md_tens 8 h (5 - c)) (fun r9 => some (s8 * r9))) = some (pvI o c) := by
  have := pv_m ⟨o.toNat, by omega⟩ ⟨c.toNat, by omega⟩
  dsimp only at this
  rw [show ((o.toNat : Nat) : Int) = o by omega, show ((c.toNat : Nat) : Int) = c by omega] at this
  have e : md_bareWeight_b1 h c = md_bareWeight_b1 (fun _ _ => o) c := by
    funext s
    unfold md_bareWeight_b1
    rw [h3]
  rw [e, m_tens_h 8 h (fun _ _ => 0)]
  exact this
theorem pv_in {o c : Int} (ho : 0 ≤ o ∧ o ≤ 10) (hc : 0 ≤ c ∧ c ≤ 5) : 0 ≤ pvI o c ∧ pvI o c ≤ 100000 := by
  have := pv_in' ⟨o.toNat, by omega⟩ ⟨c.toNat, by omega⟩
  dsimp only at this
  rw [show ((o.toNat : Nat) : Int) = o by omega, show ((c.toNat : Nat) : Int) = c by omega] at this
  exact this
def bwS (S : Sn) (o p : Int) : Int := if dpS S p = -1 then (if sL S = 1 then 0 else 100000) else pvI o (ct (opS S (dpS S p)))
theorem ct_op {S : Sn} (hW : WF S) (p : Int) : 0 ≤ ct (opS S p) ∧ ct (opS S p) ≤ 5 := by
  have h5 := op_lt (S := S) (p := p) (k := 5) hW.1.2
  unfold ct
  rw [h5]
  have := bt_in (opS S p 0); have := bt_in (opS S p 1); have := bt_in (opS S p 2); have := bt_in (opS S p 3); have := bt_in (opS S p 4)
  simp only [bt, Bool.false_eq_true, if_false] at *
  omega
theorem bw_in {S : Sn} (hW : WF S) {o : Int} (ho : 0 ≤ o ∧ o ≤ 10) (p : Int) : 0 ≤ bwS S o p ∧ bwS S o p ≤ 100000 := by
  unfold bwS
  split
  · split <;> omega
  · exact pv_in ho (ct_op hW _)
theorem c_parts {F : Hp} {S : Sn} (hW : WF S) (hF : Full S) (ca : CA F 63 S) {o p : Int} (ho : 0 ≤ o ∧ o ≤ 10) (hp : 0 ≤ p ∧ p < sP S) : sg_partsBare F 63 p o = some (bwS S o p) := by
  have hP := hW.2.2.1
  have hd := dpS_in hW hF hp
  have e5 : F (63 + 5) p = dpS S p := ca.2.2.1 p hp.1 hp.2
  have e1 : F 63 1 = sL S := ca.1.2.1
  have hL := hW.2.1
  have cc := ct_op hW (dpS S p)
  unfold sg_partsBare bwS
  rw [w32 (show -1000000 ≤ p ∧ p ≤ 1000000 by omega), chk_t (by omega), e5, e1, w32 (show -1000000 ≤ dpS S p ∧ dpS S p ≤ 1000000 by omega), w32 (show -1000000 ≤ sL S ∧ sL S ≤ 1000000 by omega), show wr (-1) = -1 from rfl, show wr 1 = 1 from rfl]
  by_cases z : dpS S p = -1
  · rw [if_pos z, if_pos z, bd_some, if_pos z]
  · have e4 : F (63 + 4) (dpS S p) = bs (opS S (dpS S p)) := ca.2.1 _ (by omega) hd.2
    rw [if_neg z, if_neg z, chk_t (by omega), e4, bitCount_bs, bd_some, if_neg z, ite_self, pvC ho cc, bd_some, bd_some]
theorem m_weight {u : Hp} {S : Sn} (hW : WF S) (hF : Full S) (kA : MA u S) {o p : Int} (ho : 0 ≤ o ∧ o ≤ 10) (h3 : u 174 3 = o) (hp : 0 ≤ p ∧ p < sP S) : md_bareWeight u p = some (bwS S o p) := by
  have hP := hW.2.2.1
  have hd := dpS_in hW hF hp
  have e1 : u 174 1 = sL S := kA.1.2.1
  have hL := hW.2.1
  have cc := ct_op hW (dpS S p)
  unfold md_bareWeight bwS
  rw [m_decF hW hF kA.1 hp, bd_some, e1, w32 (show -1000000 ≤ dpS S p ∧ dpS S p ≤ 1000000 by omega), w32 (show -1000000 ≤ sL S ∧ sL S ≤ 1000000 by omega), show wr (-1) = -1 from rfl, show wr 1 = 1 from rfl]
  by_cases z : dpS S p = -1
  · rw [if_pos z, if_pos z]
  · rw [if_neg z, if_neg z, m_open hW kA.1 (by omega), bd_some, sizeOf_bs, bd_some, pvM ho cc h3]
theorem st_chance : St_chance INV := by
  intro h hI a1 a2 w1 w2
  have n1 : ¬ wr 1 = 0 := by decide
  have n0 : wr 0 = 0 := rfl
  have lO := (INV_l hI).2.2.2.2.1
  by_cases g1 : 0 ≤ a1 ∧ a1 < h 9 5
  · by_cases g2 : 0 ≤ a2 ∧ a2 ≤ 1
    · obtain ⟨sW, sF, eK, eL, eP, eN⟩ := Sea_ok hI 0
      obtain ⟨F, hR, hs⟩ := c_rdy (Mf_rfl hI)
      have e0 : sf_seasonAt h 0 = some (63, F) := hs 0 (by omega) (by omega)
      have m0 : Mf h (up F 167 0 0) := Mf_up hR.1 (by omega) (by omega) (by omega)
      obtain ⟨u, et, kB, kA, mu⟩ := Mf_first m0
      have bi := bw_in sW lO a1
      refine ⟨rdI (bwS (Sea h 0) (h 9 4) a1) a2, F, rdI (bwS (Sea h 0) (h 9 4) a1) a2, u, ?_, ?_, rfl, mu.1⟩
      · unfold sf_chance
        rw [c_isP hI w1, bd_some, bI_t g1, if_neg n1, c_choice h w2, bd_some, bI_t g2, if_neg n1, e0, bd_some]
        dsimp only
        rw [chk_t sh63, Mf_9 hR.1, c_parts sW sF (rdy_c0 hR) lO (by omega), bd_some, c_reduced F (by omega) g2, bd_some]
      · unfold md_chance
        rw [lt_eq, Mf_isP hI m0 w1, bd_some, bI_t g1, if_neg n1, Mf_half w2, bd_some, bI_t g2, if_neg n1, et, bd_some, m_weight sW sF kA lO (Mf_n mu).2.2.2.1 (by omega), bd_some, m_partR u (by omega) g2, bd_some]
    · have m0 : Mf h (up h 167 0 0) := Mf_self hI
      refine ⟨-2, h, -2, up h 167 0 0, ?_, ?_, rfl, m0.1⟩
      · unfold sf_chance
        rw [c_isP hI w1, bd_some, bI_t g1, if_neg n1, c_choice h w2, bd_some, bI_f g2, if_pos n0]
      · unfold md_chance
        rw [lt_eq, Mf_isP hI m0 w1, bd_some, bI_t g1, if_neg n1, Mf_half w2, bd_some, bI_f g2, if_pos n0]
  · have m0 : Mf h (up h 167 0 0) := Mf_self hI
    refine ⟨-2, h, -2, up h 167 0 0, ?_, ?_, rfl, m0.1⟩
    · unfold sf_chance
      rw [c_isP hI w1, bd_some, bI_f g1, if_pos n0]
    · unfold md_chance
      rw [lt_eq, Mf_isP hI m0 w1, bd_some, bI_f g1, if_pos n0]
theorem st_mean : St_mean INV := by
  intro h hI a1 w1
  have n1 : ¬ wr 1 = 0 := by decide
  have n0 : wr 0 = 0 := rfl
  have tc := th_cond hI
  have lO := (INV_l hI).2.2.2.2.1
  have lP := (INV_l hI).2.2.2.2.2.1
  by_cases g1 : h 9 0 = 1
  · by_cases g2 : 0 ≤ a1 ∧ a1 ≤ 1
    · obtain ⟨sW, sF, eK, eL, eP, eN⟩ := Sea_ok hI 0
      have si := sm_le lP.1 (f := bwS (Sea h 0) (h 9 4)) (m := 0) (M := 100000) (fun k _ _ => bw_in sW lO k)
      obtain ⟨r, e, r1, r2⟩ := lp (body := sf_mean_b1) (s0 := (0, 0, h)) (Q := fun r => r.1 = sm (h 9 5) (bwS (Sea h 0) (h 9 4)) ∧ Mf h r.2) (fun i s => s.1 = sm i (bwS (Sea h 0) (h 9 4)) ∧ s.2.1 = i ∧ Mf h s.2.2) (h 9 5) lP.1 (by omega) ⟨rfl, rfl, Mf_rfl hI⟩ (fun i s a b hi => by
        obtain ⟨v, c, m⟩ := s
        obtain ⟨q1, q2, q3⟩ := hi
        dsimp only at q1 q2 q3
        subst q2
        obtain ⟨F, hR, hs⟩ := c_rdy q3
        have e0 : sf_seasonAt m 0 = some (63, F) := hs 0 (by omega) (by omega)
        refine ⟨(sm (c + 1) (bwS (Sea h 0) (h 9 4)), c + 1, F), ?_, rfl, rfl, hR.1⟩
        rw [sm_succ a, ← q1]
        simp only [sf_mean_b1, Mf_9 q3]
        rw [wr_id (by omega), wr_id (by omega), if_pos b, e0, bd_some]
        dsimp only
        rw [chk_t sh63, Mf_9 hR.1, c_parts sW sF (rdy_c0 hR) lO (by omega), bd_some]) (fun s hi => by
        obtain ⟨v, c, m⟩ := s
        obtain ⟨q1, q2, q3⟩ := hi
        dsimp only at q1 q2 q3
        subst q2
        refine ⟨(v, m), ?_, q1, q3⟩
        simp only [sf_mean_b1, Mf_9 q3]
        rw [if_neg (by omega)])
      obtain ⟨v, m⟩ := r
      dsimp only at r1 r2
      have m0 : Mf h (up m 167 0 0) := Mf_up r2 (by omega) (by omega) (by omega)
      obtain ⟨u, et, kB, kA, mu⟩ := Mf_first m0
      have c2 : u 174 4 = h 9 5 := (Mf_n mu).2.2.2.2.1
      have hit := lp_fn (body := md_mean_b1 u) (s0 := (0, 0)) (fun i => (sm i (bwS (Sea h 0) (h 9 4)), i)) (h 9 5) (sm (h 9 5) (bwS (Sea h 0) (h 9 4))) lP.1 (by omega) rfl (fun i a b => by
        unfold md_mean_b1 md_people
        dsimp only
        rw [c2, bd_some, wr_id (by omega), wr_id (by omega), if_pos b, m_weight sW sF kA lO (Mf_n mu).2.2.2.1 (by omega), bd_some, sm_succ a]) (by
        unfold md_mean_b1 md_people
        dsimp only
        rw [c2, bd_some, if_neg (by omega)])
      refine ⟨rdI (sm (h 9 5) (bwS (Sea h 0) (h 9 4))) a1, m, rdI (sm (h 9 5) (bwS (Sea h 0) (h 9 4))) a1, u, ?_, ?_, rfl, mu.1⟩
      · unfold sf_mean
        rw [if_neg (by rw [tc]; simp [g1]), c_choice h w1, bd_some, bI_t g2, if_neg n1, e, bd_some]
        dsimp only
        rw [r1, c_reduced m (by omega) g2, bd_some]
      · unfold md_mean
        rw [lt_eq, Mf_isF hI m0, bd_some, bI_t g1, if_neg n1, Mf_half w1, bd_some, bI_t g2, if_neg n1, et, bd_some, hit, bd_some, m_partR u (by omega) g2, bd_some]
    · have m0 : Mf h (up h 167 0 0) := Mf_self hI
      refine ⟨-2, h, -2, up h 167 0 0, ?_, ?_, rfl, m0.1⟩
      · unfold sf_mean
        rw [if_neg (by rw [tc]; simp [g1]), c_choice h w1, bd_some, bI_f g2, if_pos n0]
      · unfold md_mean
        rw [lt_eq, Mf_isF hI m0, bd_some, bI_t g1, if_neg n1, Mf_half w1, bd_some, bI_f g2, if_pos n0]
  · have m0 : Mf h (up h 167 0 0) := Mf_self hI
    refine ⟨-2, h, -2, up h 167 0 0, ?_, ?_, rfl, m0.1⟩
    · unfold sf_mean; rw [if_pos (by rw [tc]; exact g1)]
    · unfold md_mean
      rw [lt_eq, Mf_isF hI m0, bd_some, bI_f g1, if_pos n0]
