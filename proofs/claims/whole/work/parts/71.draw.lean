/-! Layer 2: springs drawn -/
def lcg (x : Int) : Int := (1103515245 * x + 12345) % 2147483648
theorem lcg_in (x : Int) : 0 ≤ lcg x ∧ lcg x < 2147483648 := by unfold lcg; omega
theorem lcg_c {x : Int} (hx : 0 ≤ x ∧ x < 2147483648) : land64 (1103515245 * x + 12345) 2147483647 = lcg x := land_id (by omega)
theorem lcg_m {x : Int} (hx : 0 ≤ x ∧ x < 2147483648) : lrm (1103515245 * x + 12345) 2147483648 = lcg x := lrm_id (by omega) (by omega)
theorem drw {x : Int} (hx : 0 ≤ x ∧ x < 2147483648) : wl (lrm (ldv x 65536) 10) = x / 65536 % 10 := by
  rw [ldv_id (by omega) (by omega), lrm_id (by omega) (by omega)]
  exact wl_id (by omega)
def dkN (S : Sn) (o p x n : Int) : Nat → Int × Int × (Int → Bool)
  | 0 => (x, n, fun _ => false)
  | k + 1 => if opS S p (k : Int) = true then (if lcg (dkN S o p x n k).1 / 65536 % 10 < o then (lcg (dkN S o p x n k).1, (dkN S o p x n k).2.1 + 1, fun j => (dkN S o p x n k).2.2 j || (j == (k : Int))) else (lcg (dkN S o p x n k).1, (dkN S o p x n k).2.1, (dkN S o p x n k).2.2)) else dkN S o p x n k
def dkI (S : Sn) (o p x n i : Int) : Int × Int × (Int → Bool) := dkN S o p x n i.toNat
theorem dkI_succ (S : Sn) (o p x n : Int) {i : Int} (hi : 0 ≤ i) : dkI S o p x n (i + 1) = if opS S p i = true then (if lcg (dkI S o p x n i).1 / 65536 % 10 < o then (lcg (dkI S o p x n i).1, (dkI S o p x n i).2.1 + 1, fun j => (dkI S o p x n i).2.2 j || (j == i)) else (lcg (dkI S o p x n i).1, (dkI S o p x n i).2.1, (dkI S o p x n i).2.2)) else dkI S o p x n i := by
  unfold dkI
  have e : (i + 1).toNat = i.toNat + 1 := by omega
  have e2 : ((i.toNat : Nat) : Int) = i := by omega
  rw [e, dkN, e2]
theorem dkI_in (S : Sn) (o p : Int) {x : Int} (hx : 0 ≤ x ∧ x < 2147483648) (n : Int) {i : Int} (hi : 0 ≤ i) : 0 ≤ (dkI S o p x n i).1 ∧ (dkI S o p x n i).1 < 2147483648 :=
  ind_to (P := fun i => 0 ≤ (dkI S o p x n i).1 ∧ (dkI S o p x n i).1 < 2147483648) (n := i) hx (fun i a b d => by
    rw [dkI_succ S o p x n a]
    have := lcg_in (dkI S o p x n i).1
    split
    · split <;> exact this
    · exact d) i hi (by omega)
def dpN (S : Sn) (o x : Int) : Nat → Int × Int × (Int → Int → Bool)
  | 0 => (x, 0, fun _ _ => false)
  | p + 1 => ((dkI S o (p : Int) (dpN S o x p).1 (dpN S o x p).2.1 (sK S)).1, (dkI S o (p : Int) (dpN S o x p).1 (dpN S o x p).2.1 (sK S)).2.1, fun r j => if r = (p : Int) then (dkI S o (p : Int) (dpN S o x p).1 (dpN S o x p).2.1 (sK S)).2.2 j else (dpN S o x p).2.2 r j)
def dpI (S : Sn) (o x i : Int) : Int × Int × (Int → Int → Bool) := dpN S o x i.toNat
theorem dpI_succ (S : Sn) (o x : Int) {i : Int} (hi : 0 ≤ i) : dpI S o x (i + 1) = ((dkI S o i (dpI S o x i).1 (dpI S o x i).2.1 (sK S)).1, (dkI S o i (dpI S o x i).1 (dpI S o x i).2.1 (sK S)).2.1, fun r j => if r = i then (dkI S o i (dpI S o x i).1 (dpI S o x i).2.1 (sK S)).2.2 j else (dpI S o x i).2.2 r j) := by
  unfold dpI
  have e : (i + 1).toNat = i.toNat + 1 := by omega
  have e2 : ((i.toNat : Nat) : Int) = i := by omega
  rw [e, dpN, e2]
theorem dpI_in {S : Sn} (hK : 0 ≤ sK S) (o : Int) {x : Int} (hx : 0 ≤ x ∧ x < 2147483648) {i : Int} (hi : 0 ≤ i) : 0 ≤ (dpI S o x i).1 ∧ (dpI S o x i).1 < 2147483648 :=
  ind_to (P := fun i => 0 ≤ (dpI S o x i).1 ∧ (dpI S o x i).1 < 2147483648) (n := i) hx (fun i a b d => by
    rw [dpI_succ S o x a]
    exact dkI_in S o i d _ hK) i hi (by omega)
theorem dpI_f (S : Sn) (o x : Int) {i : Int} (hi : 0 ≤ i) : ∀ r j, i ≤ r → (dpI S o x i).2.2 r j = false :=
  ind_to (P := fun i => ∀ r j, i ≤ r → (dpI S o x i).2.2 r j = false) (n := i) (fun _ _ _ => rfl) (fun i a b d => by
    intro r j h
    rw [dpI_succ S o x a]
    dsimp only
    rw [if_neg (by omega)]
    exact d r j (by omega)) i hi (by omega)
/-- the spring drawn -/
def spS (S : Sn) (o x : Int) : Sn := wH S (fun r j => sH S r j || (dpI S o x (sP S)).2.2 r j)
theorem c_draw2 {m0 : Hp} {S : Sn} (hW : WF S) {o p : Int} (ho : 0 ≤ o ∧ o ≤ 10) (hp : 0 ≤ p ∧ p < sP S) (c0 : m0 63 0 = sK S) (z : Int × Int × Int × Hp) (hz : z.2.2.1 = p) (hz4 : z.2.2.2 (63 + 4) p = bs (opS S p)) {x n : Int} (hx : 0 ≤ x ∧ x < 2147483648) (g22 : m0 22 p = bs (sH S p)) : ∃ m', iter FU (sg_drawInto_b2 19 63 o z) (x, n, 0, m0) = some ((dkI S o p x n (sK S)).1, (dkI S o p x n (sK S)).2.1, m') ∧ (∀ a, a ≠ 22 → m' a = m0 a) ∧ (∀ r, r ≠ p → m' 22 r = m0 22 r) ∧ m' 22 p = bs (fun j => sH S p j || (dkI S o p x n (sK S)).2.2 j) := by
  have hK := hW.1
  have hP := hW.2.2.1
  obtain ⟨r, e, r1, r2, r3⟩ := lp (body := sg_drawInto_b2 19 63 o z) (s0 := (x, n, 0, m0)) (Q := fun r => (r.1 = (dkI S o p x n (sK S)).1 ∧ r.2.1 = (dkI S o p x n (sK S)).2.1) ∧ (∀ a, a ≠ 22 → r.2.2 a = m0 a) ∧ (∀ q, q ≠ p → r.2.2 22 q = m0 22 q) ∧ r.2.2 22 p = bs (fun j => sH S p j || (dkI S o p x n (sK S)).2.2 j)) (fun i s => (s.1 = (dkI S o p x n i).1 ∧ s.2.1 = (dkI S o p x n i).2.1) ∧ s.2.2.1 = i ∧ (∀ a, a ≠ 22 → s.2.2.2 a = m0 a) ∧ (∀ q, q ≠ p → s.2.2.2 22 q = m0 22 q) ∧ s.2.2.2 22 p = bs (fun j => sH S p j || (dkI S o p x n i).2.2 j)) (sK S) hK.1 (by omega) ⟨⟨rfl, rfl⟩, rfl, fun _ _ => rfl, fun _ _ => rfl, by
      dsimp only
      rw [g22]
      exact bs_congr (fun k _ _ => by show _ = (sH S p k || false); rw [Bool.or_false])⟩ (fun i s a b hi => by
    obtain ⟨y, v, c, m⟩ := s
    obtain ⟨⟨q1, q1'⟩, q2, q3, q4, q5⟩ := hi
    dsimp only at q1 q1' q2 q3 q4 q5
    subst q2
    have yi := dkI_in S o p hx n a
    rw [← q1] at yi
    have li := lcg_in y
    have hh := c_holds m (opS S p) (k := c) (by omega)
    have ds := dkI_succ S o p x n a
    rw [← q1, ← q1'] at ds
    have eb : sg_drawInto_b2 19 63 o z (y, v, c, m) = Option.bind (if bt (opS S p c) 1 = 0 then some (y, v, m) else if lcg y / 65536 % 10 < o then some (lcg y, v + 1, up m 22 p (ior (m 22 p) (ishl 1 c))) else some (lcg y, v, m)) (fun s13 : Int × Int × Hp => some (.inl (s13.1, s13.2.1, c + 1, s13.2.2))) := by
      simp only [sg_drawInto_b2, q3 63 (by omega), c0, hz]
      rw [w32 (show -1000000 ≤ c ∧ c ≤ 1000000 by omega), w32 (show -1000000 ≤ sK S ∧ sK S ≤ 1000000 by omega), if_pos b, w32 (show -1000000 ≤ p ∧ p ≤ 1000000 by omega), hz4, hh, bd_some, wr_bt, lcg_c yi, drw li, w32 (show -1000000 ≤ o ∧ o ≤ 1000000 by omega), wl_id (show -9223372036854775808 ≤ o ∧ o < 9223372036854775808 by omega), chk_t (by omega), chk_t (by omega), lt_eq]
    rw [eb, ds]
    cases zo : opS S p c
    · rw [if_pos (show bt false 1 = 0 from rfl), bd_some, if_neg (by simp)]
      exact ⟨_, rfl, ⟨q1, q1'⟩, rfl, q3, q4, q5⟩
    · rw [if_neg (show ¬ bt true 1 = 0 by decide), if_pos rfl]
      by_cases z2 : lcg y / 65536 % 10 < o
      · rw [if_pos z2, bd_some, if_pos z2]
        refine ⟨_, rfl, ⟨rfl, rfl⟩, rfl, fun a' h1 => ?_, fun q h1 => ?_, ?_⟩
        · dsimp only; rw [up_nk h1]; exact q3 a' h1
        · dsimp only; rw [up_ni h1]; exact q4 q h1
        · dsimp only
          rw [up_eq, q5, bs_shl c a (by omega), bs_ior]
          exact bs_congr (fun k _ _ => by rw [Bool.or_assoc])
      · rw [if_neg z2, bd_some, if_neg z2]
        exact ⟨_, rfl, ⟨rfl, rfl⟩, rfl, q3, q4, q5⟩) (fun s hi => by
    obtain ⟨y, v, c, m⟩ := s
    obtain ⟨⟨q1, q1'⟩, q2, q3, q4, q5⟩ := hi
    dsimp only at q1 q1' q2 q3 q4 q5
    subst q2
    refine ⟨(y, v, m), ?_, ⟨q1, q1'⟩, q3, q4, q5⟩
    simp only [sg_drawInto_b2, q3 63 (by omega), c0]
    rw [if_neg (by omega)])
  obtain ⟨y, v, m⟩ := r
  dsimp only at r1 r2 r3
  exact ⟨m, by rw [e, r1.1, r1.2], r2, r3⟩
theorem c_draw {h F : Hp} (hI : INV h) (hR : Rdy h F) {x : Int} (hx : 0 ≤ x ∧ x < 2147483648) : ∃ m', sg_drawInto F 19 63 x (h 9 4) = some ((dpI (Sea h 0) (h 9 4) x (h 9 5)).2.1, m') ∧ CA m' 19 (spS (Sea h 0) (h 9 4) x) ∧ Rdy h m' := by
  obtain ⟨sW, sF, eK, eL, eP, eN⟩ := Sea_ok hI 0
  have lO := (INV_l hI).2.2.2.2.1
  have lP := (INV_l hI).2.2.2.2.2.1
  have ca := rdy_c0 hR
  obtain ⟨G, e1, k1, f1⟩ := c_takeFrom (o := 19) (show sP (Sea h 0) ≤ 6 by omega) ca.1 (by omega)
  have g63 : ∀ a, 63 ≤ a → a ≤ 70 → G a = F a := fun a x y => f1 a (by omega)
  obtain ⟨r, e2, r1, r2, r3⟩ := lp (body := sg_drawInto_b1 19 63 (h 9 4)) (s0 := (x, 0, 0, G)) (Q := fun r => r.1 = (dpI (Sea h 0) (h 9 4) x (h 9 5)).2.1 ∧ (∀ a, a ≠ 22 → r.2 a = G a) ∧ ∀ q, 0 ≤ q → q < h 9 5 → r.2 22 q = bs (fun j => sH (Sea h 0) q j || (dpI (Sea h 0) (h 9 4) x (h 9 5)).2.2 q j)) (fun i s => (s.1 = (dpI (Sea h 0) (h 9 4) x i).1 ∧ s.2.1 = (dpI (Sea h 0) (h 9 4) x i).2.1) ∧ s.2.2.1 = i ∧ (∀ a, a ≠ 22 → s.2.2.2 a = G a) ∧ ∀ q, 0 ≤ q → q < h 9 5 → s.2.2.2 22 q = bs (fun j => sH (Sea h 0) q j || (dpI (Sea h 0) (h 9 4) x i).2.2 q j)) (h 9 5) lP.1 (by omega) ⟨⟨rfl, rfl⟩, rfl, fun _ _ => rfl, fun q a b => by
      dsimp only
      rw [k1.2.2.2.2.2 q a (by omega)]
      exact bs_congr (fun k _ _ => by show _ = (sH (Sea h 0) q k || false); rw [Bool.or_false])⟩ (fun i s a b hi => by
    obtain ⟨y, v, c, m⟩ := s
    obtain ⟨⟨q1, q1'⟩, q2, q3, q4⟩ := hi
    dsimp only at q1 q1' q2 q3 q4
    subst q2
    have yi := dpI_in (S := Sea h 0) sW.1.1 (h 9 4) hx a
    rw [← q1] at yi
    have ds := dpI_succ (Sea h 0) (h 9 4) x a
    rw [← q1, ← q1'] at ds
    have m63 : m 63 = F 63 := by rw [q3 63 (by omega), g63 63 (by omega) (by omega)]
    have m67 : m (63 + 4) = F 67 := by rw [q3 67 (by omega), g63 67 (by omega) (by omega)]
    have g22 : m 22 c = bs (sH (Sea h 0) c) := by
      rw [q4 c a b]
      exact bs_congr (fun k _ _ => by rw [dpI_f _ _ _ a c k (by omega), Bool.or_false])
    obtain ⟨m', e3, x1, x2, x3⟩ := c_draw2 (m0 := m) sW (o := h 9 4) (p := c) lO (by omega) (by rw [m63]; exact ca.1.1) (y, v, c, m) rfl (by dsimp only; rw [m67]; exact ca.2.1 c a (by omega)) (n := v) yi g22
    refine ⟨((dpI (Sea h 0) (h 9 4) x (c + 1)).1, (dpI (Sea h 0) (h 9 4) x (c + 1)).2.1, c + 1, m'), ?_, ⟨rfl, rfl⟩, rfl, fun a' h1 => ?_, fun q h1 h2 => ?_⟩
    · have m2 : m 63 2 = h 9 5 := by rw [m63, ca.1.2.2.1, eP]
      simp only [sg_drawInto_b1, m2]
      rw [w32 (show -1000000 ≤ c ∧ c ≤ 1000000 by omega), w32 (show -1000000 ≤ h 9 5 ∧ h 9 5 ≤ 1000000 by omega), if_pos b, chk_t (by omega), e3, bd_some, ds]
    · dsimp only; rw [x1 a' h1]; exact q3 a' h1
    · rw [ds]
      dsimp only
      by_cases z : q = c
      · rw [z, x3]
        exact bs_congr (fun k _ _ => by rw [if_pos rfl])
      · rw [x2 q z, q4 q h1 h2]
        exact bs_congr (fun k _ _ => by rw [if_neg z])) (fun s hi => by
    obtain ⟨y, v, c, m⟩ := s
    obtain ⟨⟨q1, q1'⟩, q2, q3, q4⟩ := hi
    dsimp only at q1 q1' q2 q3 q4
    subst q2
    refine ⟨(v, m), ?_, q1', q3, q4⟩
    have m2 : m 63 2 = h 9 5 := by rw [q3 63 (by omega), g63 63 (by omega) (by omega), ca.1.2.2.1, eP]
    simp only [sg_drawInto_b1, m2]
    rw [if_neg (by omega)])
  obtain ⟨v, m⟩ := r
  dsimp only at r1 r2 r3
  have k2 : CP m 19 (spS (Sea h 0) (h 9 4) x) := CP_wH k1 (fun a p q => r2 a (by omega)) (fun p a b => by rw [eP]; exact r3 p a (by omega))
  have ok := wH_ok (fun r j => sH (Sea h 0) r j || (dpI (Sea h 0) (h 9 4) x (sP (Sea h 0))).2.2 r j) sW sF
  obtain ⟨m', e3, k3, hR'⟩ := c_set hR (fun a ha => by rw [r2 a (by omega), f1 a (by omega)]) ok.1 ok.2 k2
  refine ⟨m', ?_, k3, hR'⟩
  unfold sg_drawInto
  rw [e1, bd_some, wr_id (by omega), e2, bd_some]
  dsimp only
  rw [e3, bd_some, r1]
/-- hates lost beside those hid -/
theorem MP_lost {t u : Hp} {S : Sn} (hW : WF S) (hF : Full S) (hB : MB t S) {L : Int → Int → Bool} (hf : ∀ a, a ≠ 182 → u a = t a) (h2 : ∀ p, 0 ≤ p → p < sP S → u 182 p = bs (L p)) : MP u (wH S (fun r j => sH S r j || L r j)) := by
  obtain ⟨c0, c1, c2, c3, cT, cR, cH⟩ := MB_MP hW hF hB
  unfold MP
  rw [hf 174 (by omega), hf 167 (by omega), hf 178 (by omega), hf 179 (by omega), hf 180 (by omega), hf 181 (by omega)]
  refine ⟨c0, c1, c2, c3, cT, cR, ?_⟩
  intro p a b c
  rw [h2 p a b, (hB.2.2.2.2.2 p a b).2.2.1, bs_andn, bs_andn]
  exact bs_congr (fun k _ _ => by
    show _ = (c k && !(sH S p k || L p k))
    cases c k <;> cases sH S p k <;> cases L p k <;> rfl)
theorem m_draw2 {m0 : Hp} {S : Sn} (hW : WF S) {o p : Int} (ho : 0 ≤ o ∧ o ≤ 10) (hp : 0 ≤ p ∧ p < sP S) (c0 : m0 174 0 = sK S) (c3 : m0 174 3 = o) (z : Int × Int × Int × Hp) (hz : z.2.2.1 = p) {x n : Int} (hx : 0 ≤ x ∧ x < 2147483648) (g82 : m0 182 p = bs (fun _ => false)) : ∃ m', iter FU (md_draws_b2 z (bs (opS S p))) (x, n, 0, m0) = some ((dkI S o p x n (sK S)).1, (dkI S o p x n (sK S)).2.1, m') ∧ (∀ a, a ≠ 182 → m' a = m0 a) ∧ (∀ r, r ≠ p → m' 182 r = m0 182 r) ∧ m' 182 p = bs ((dkI S o p x n (sK S)).2.2) := by
  have hK := hW.1
  have hP := hW.2.2.1
  obtain ⟨r, e, r1, r2, r3⟩ := lp (body := md_draws_b2 z (bs (opS S p))) (s0 := (x, n, 0, m0)) (Q := fun r => (r.1 = (dkI S o p x n (sK S)).1 ∧ r.2.1 = (dkI S o p x n (sK S)).2.1) ∧ (∀ a, a ≠ 182 → r.2.2 a = m0 a) ∧ (∀ q, q ≠ p → r.2.2 182 q = m0 182 q) ∧ r.2.2 182 p = bs ((dkI S o p x n (sK S)).2.2)) (fun i s => (s.1 = (dkI S o p x n i).1 ∧ s.2.1 = (dkI S o p x n i).2.1) ∧ s.2.2.1 = i ∧ (∀ a, a ≠ 182 → s.2.2.2 a = m0 a) ∧ (∀ q, q ≠ p → s.2.2.2 182 q = m0 182 q) ∧ s.2.2.2 182 p = bs ((dkI S o p x n i).2.2)) (sK S) hK.1 (by omega) ⟨⟨rfl, rfl⟩, rfl, fun _ _ => rfl, fun _ _ => rfl, g82⟩ (fun i s a b hi => by
    obtain ⟨y, v, c, m⟩ := s
    obtain ⟨⟨q1, q1'⟩, q2, q3, q4, q5⟩ := hi
    dsimp only at q1 q1' q2 q3 q4 q5
    subst q2
    have yi := dkI_in S o p hx n a
    rw [← q1] at yi
    have li := lcg_in y
    have hh := m_isBit m (opS S p) (k := c) (by omega)
    have ds := dkI_succ S o p x n a
    rw [← q1, ← q1'] at ds
    have eb : md_draws_b2 z (bs (opS S p)) (y, v, c, m) = Option.bind (if bt (opS S p c) 1 = 0 then some (y, v, m) else if o ≤ lcg y / 65536 % 10 then some (lcg y, v, m) else some (lcg y, v + 1, up m 182 p (ior (m 182 p) (ishl 1 c)))) (fun s13 : Int × Int × Hp => some (.inl (s13.1, s13.2.1, c + 1, s13.2.2))) := by
      simp only [md_draws_b2, md_kindsAll, q3 174 (by omega), c0, c3, hz, bd_some]
      rw [w32 (show -1000000 ≤ c ∧ c ≤ 1000000 by omega), w32 (show -1000000 ≤ sK S ∧ sK S ≤ 1000000 by omega), if_pos b, w32 (show -1000000 ≤ p ∧ p ≤ 1000000 by omega), hh, bd_some, wr_bt, lcg_m yi, drw li, w32 (show -1000000 ≤ o ∧ o ≤ 1000000 by omega), wl_id (show -9223372036854775808 ≤ o ∧ o < 9223372036854775808 by omega), chk_t (by omega), chk_t (by omega), lt_eq]
    rw [eb, ds]
    cases zo : opS S p c
    · rw [if_pos (show bt false 1 = 0 from rfl), bd_some, if_neg (by simp)]
      exact ⟨_, rfl, ⟨q1, q1'⟩, rfl, q3, q4, q5⟩
    · rw [if_neg (show ¬ bt true 1 = 0 by decide), if_pos rfl]
      by_cases z2 : lcg y / 65536 % 10 < o
      · rw [if_neg (by omega), bd_some, if_pos z2]
        refine ⟨_, rfl, ⟨rfl, rfl⟩, rfl, fun a' h1 => ?_, fun q h1 => ?_, ?_⟩
        · dsimp only; rw [up_nk h1]; exact q3 a' h1
        · dsimp only; rw [up_ni h1]; exact q4 q h1
        · dsimp only
          rw [up_eq, q5, bs_shl c a (by omega), bs_ior]
      · rw [if_pos (by omega), bd_some, if_neg z2]
        exact ⟨_, rfl, ⟨rfl, rfl⟩, rfl, q3, q4, q5⟩) (fun s hi => by
    obtain ⟨y, v, c, m⟩ := s
    obtain ⟨⟨q1, q1'⟩, q2, q3, q4, q5⟩ := hi
    dsimp only at q1 q1' q2 q3 q4 q5
    subst q2
    refine ⟨(y, v, m), ?_, ⟨q1, q1'⟩, q3, q4, q5⟩
    simp only [md_draws_b2, md_kindsAll, q3 174 (by omega), c0, bd_some]
    rw [if_neg (by omega)])
  obtain ⟨y, v, m⟩ := r
  dsimp only at r1 r2 r3
  exact ⟨m, by rw [e, r1.1, r1.2], r2, r3⟩
theorem m_draw {h t : Hp} (hI : INV h) (hM : Mf h t) {x : Int} (hx : 0 ≤ x ∧ x < 2147483648) : ∃ u, md_draws t x = some ((dpI (Sea h 0) (h 9 4) x (h 9 5)).2.1, u) ∧ MA u (spS (Sea h 0) (h 9 4) x) ∧ Mf h u := by
  obtain ⟨sW, sF, eK, eL, eP, eN⟩ := Sea_ok hI 0
  have lO := (INV_l hI).2.2.2.2.1
  have lP := (INV_l hI).2.2.2.2.2.1
  obtain ⟨G, e1, kB, mG⟩ := Mf_beg hM
  have Gn := Mf_n mG
  obtain ⟨r, e2, r1, r2, r3⟩ := lp (body := md_draws_b1) (s0 := (x, 0, 0, G)) (Q := fun r => r.1 = (dpI (Sea h 0) (h 9 4) x (h 9 5)).2.1 ∧ (∀ a, a ≠ 182 → r.2 a = G a) ∧ ∀ q, 0 ≤ q → q < h 9 5 → r.2 182 q = bs ((dpI (Sea h 0) (h 9 4) x (h 9 5)).2.2 q)) (fun i s => (s.1 = (dpI (Sea h 0) (h 9 4) x i).1 ∧ s.2.1 = (dpI (Sea h 0) (h 9 4) x i).2.1) ∧ s.2.2.1 = i ∧ (∀ a, a ≠ 182 → s.2.2.2 a = G a) ∧ ∀ q, 0 ≤ q → q < h 9 5 → s.2.2.2 182 q = bs ((dpI (Sea h 0) (h 9 4) x i).2.2 q)) (h 9 5) lP.1 (by omega) ⟨⟨rfl, rfl⟩, rfl, fun _ _ => rfl, fun q a b => by
      dsimp only
      rw [(kB.2.2.2.2.2 q a (by omega)).2.2.2]
      exact bs_zero.symm⟩ (fun i s a b hi => by
    obtain ⟨y, v, c, m⟩ := s
    obtain ⟨⟨q1, q1'⟩, q2, q3, q4⟩ := hi
    dsimp only at q1 q1' q2 q3 q4
    subst q2
    have yi := dpI_in (S := Sea h 0) sW.1.1 (h 9 4) hx a
    rw [← q1] at yi
    have ds := dpI_succ (Sea h 0) (h 9 4) x a
    rw [← q1, ← q1'] at ds
    have m174 : m 174 = G 174 := q3 174 (by omega)
    have hMP := MP_lost (t := G) (u := m) sW sF kB (L := (dpI (Sea h 0) (h 9 4) x c).2.2) q3 (fun p u v => q4 p u (by omega))
    have ok := wH_ok (fun r j => sH (Sea h 0) r j || (dpI (Sea h 0) (h 9 4) x c).2.2 r j) sW sF
    have eo := m_open ok.1 hMP (p := c) (show 0 ≤ c ∧ c < sP (Sea h 0) by omega)
    have eo2 : bs (opS (wH (Sea h 0) (fun r j => sH (Sea h 0) r j || (dpI (Sea h 0) (h 9 4) x c).2.2 r j)) c) = bs (opS (Sea h 0) c) := bs_congr (fun k _ _ => by
      show (hatS (Sea h 0) c k && !(sH (Sea h 0) c k || (dpI (Sea h 0) (h 9 4) x c).2.2 c k)) = (hatS (Sea h 0) c k && !(sH (Sea h 0) c k))
      rw [dpI_f _ _ _ a c k (by omega), Bool.or_false])
    rw [eo2] at eo
    have g82 : m 182 c = bs (fun _ => false) := by
      rw [q4 c a b]
      exact bs_congr (fun k _ _ => dpI_f _ _ _ a c k (by omega))
    obtain ⟨m', e3, x1, x2, x3⟩ := m_draw2 (m0 := m) sW (o := h 9 4) (p := c) lO (by omega) (by rw [m174, Gn.1, eK]) (by rw [m174]; exact Gn.2.2.2.1) (y, v, c, m) rfl (n := v) yi g82
    refine ⟨((dpI (Sea h 0) (h 9 4) x (c + 1)).1, (dpI (Sea h 0) (h 9 4) x (c + 1)).2.1, c + 1, m'), ?_, ⟨rfl, rfl⟩, rfl, fun a' h1 => ?_, fun q h1 h2 => ?_⟩
    · have m2 : m 174 4 = h 9 5 := by rw [m174]; exact Gn.2.2.2.2.1
      unfold md_draws_b1 md_people
      dsimp only
      rw [m2, bd_some, w32 (show -1000000 ≤ c ∧ c ≤ 1000000 by omega), w32 (show -1000000 ≤ h 9 5 ∧ h 9 5 ≤ 1000000 by omega), if_pos b, eo, bd_some, e3, bd_some, ds]
    · dsimp only; rw [x1 a' h1]; exact q3 a' h1
    · rw [ds]
      dsimp only
      by_cases z : q = c
      · rw [z, x3]
        exact bs_congr (fun k _ _ => by rw [if_pos rfl])
      · rw [x2 q z, q4 q h1 h2]
        exact bs_congr (fun k _ _ => by rw [if_neg z])) (fun s hi => by
    obtain ⟨y, v, c, m⟩ := s
    obtain ⟨⟨q1, q1'⟩, q2, q3, q4⟩ := hi
    dsimp only at q1 q1' q2 q3 q4
    subst q2
    refine ⟨(v, m), ?_, q1', q3, q4⟩
    have m2 : m 174 4 = h 9 5 := by rw [q3 174 (by omega)]; exact Gn.2.2.2.2.1
    unfold md_draws_b1 md_people
    dsimp only
    rw [m2, bd_some, if_neg (by omega)])
  obtain ⟨v, m⟩ := r
  dsimp only at r1 r2 r3
  have ok := wH_ok (fun r j => sH (Sea h 0) r j || (dpI (Sea h 0) (h 9 4) x (sP (Sea h 0))).2.2 r j) sW sF
  have hMP : MP m (spS (Sea h 0) (h 9 4) x) := MP_lost sW sF kB r2 (fun p a b => by rw [eP]; exact r3 p a (by omega))
  obtain ⟨u, e3, k3, f3⟩ := m_grow ok.1 hMP
  refine ⟨u, ?_, k3, Mf_scr mG (fun a ha => by rw [f3 a (by omega), r2 a (by omega)])⟩
  unfold md_draws
  rw [e1, bd_some, e2, bd_some]
  dsimp only
  rw [e3, bd_some, r1]
theorem c_seed {h : Hp} {a : Int} (w : wr a = a) : sf_isSeed h a = some (bI (0 ≤ a ∧ a ≤ 2000000000)) := by
  unfold sf_isSeed bI
  rw [w, show wr 2000000000 = 2000000000 from rfl]
  by_cases q1 : 0 ≤ a
  · by_cases q2 : a ≤ 2000000000
    · simp [q1, q2, chk]
    · simp [q1, q2, chk]
  · simp [q1, chk]
theorem m_seed {t : Hp} {a : Int} (w : wr a = a) : md_isSeed t a = some (bI (0 ≤ a ∧ a ≤ 2000000000)) := by
  have b := in32 w
  unfold md_isSeed
  rw [w, m_in (by omega) (by omega) (by omega), bd_some, chk_t (bI_01 _)]
theorem st_drawn : St_drawn INV := by
  intro h hI a1 a2 w1 w2
  have n1 : ¬ wr 1 = 0 := by decide
  have n0 : wr 0 = 0 := rfl
  have tc := th_cond hI
  by_cases g0 : h 9 0 = 1
  · by_cases g1 : 0 ≤ a1 ∧ a1 ≤ 2000000000
    · by_cases g2 : 0 ≤ a2 ∧ a2 ≤ 1
      · obtain ⟨sW, sF, eK, eL, eP, eN⟩ := Sea_ok hI 0
        obtain ⟨F, hR, hs⟩ := c_rdy (Mf_rfl hI)
        have e0 : sf_seasonAt h 0 = some (63, F) := hs 0 (by omega) (by omega)
        obtain ⟨m, e1, k1, hR1⟩ := c_draw hI hR (x := a1) (by omega)
        have m0 : Mf h (up m 167 0 0) := Mf_up hR1.1 (by omega) (by omega) (by omega)
        obtain ⟨u, e2, k2, mu⟩ := m_draw hI m0 (x := a1) (by omega)
        have ok : WF (spS (Sea h 0) (h 9 4) a1) ∧ Full (spS (Sea h 0) (h 9 4) a1) := wH_ok _ sW sF
        have x1 := c_growers ok.1 k1 (k := -1) (by omega)
        have x2 := m_bare ok.1 k2
        rw [brS_full ok.1 ok.2] at x2
        have b2 := in32 w2
        refine ⟨if a2 = 1 then (dpI (Sea h 0) (h 9 4) a1 (h 9 5)).2.1 else bs (gwS (spS (Sea h 0) (h 9 4) a1) (-1)), m, if a2 = 1 then (dpI (Sea h 0) (h 9 4) a1 (h 9 5)).2.1 else bs (gwS (spS (Sea h 0) (h 9 4) a1) (-1)), u, ?_, ?_, rfl, mu.1⟩
        · unfold sf_drawn
          rw [if_neg (by rw [tc]; simp [g0]), c_seed w1, bd_some, bI_t g1, if_neg n1, c_choice h w2, bd_some, bI_t g2, if_neg n1, e0, bd_some]
          dsimp only
          rw [chk_t sh63, Mf_9 hR.1, e1, bd_some]
          dsimp only
          rw [w2, show wr 1 = 1 from rfl, x1, bd_some]
          by_cases z : a2 = 1
          · rw [if_pos z, if_pos z, bd_some]
          · rw [if_neg z, if_neg z, bd_some]
        · unfold md_drawn
          rw [lt_eq, Mf_isF hI m0, bd_some, bI_t g0, if_neg n1, m_seed w1, bd_some, bI_t g1, if_neg n1, Mf_half w2, bd_some, bI_t g2, if_neg n1, w1, e2, bd_some]
          dsimp only
          rw [w2, x2, bd_some]
          by_cases z : a2 = 1
          · rw [if_neg (by omega), if_pos z, bd_some]
          · rw [if_pos (by omega), if_neg z, bd_some]
      · have m0 : Mf h (up h 167 0 0) := Mf_self hI
        refine ⟨-2, h, -2, up h 167 0 0, ?_, ?_, rfl, m0.1⟩
        · unfold sf_drawn
          rw [if_neg (by rw [tc]; simp [g0]), c_seed w1, bd_some, bI_t g1, if_neg n1, c_choice h w2, bd_some, bI_f g2, if_pos n0]
        · unfold md_drawn
          rw [lt_eq, Mf_isF hI m0, bd_some, bI_t g0, if_neg n1, m_seed w1, bd_some, bI_t g1, if_neg n1, Mf_half w2, bd_some, bI_f g2, if_pos n0]
    · have m0 : Mf h (up h 167 0 0) := Mf_self hI
      refine ⟨-2, h, -2, up h 167 0 0, ?_, ?_, rfl, m0.1⟩
      · unfold sf_drawn
        rw [if_neg (by rw [tc]; simp [g0]), c_seed w1, bd_some, bI_f g1, if_pos n0]
      · unfold md_drawn
        rw [lt_eq, Mf_isF hI m0, bd_some, bI_t g0, if_neg n1, m_seed w1, bd_some, bI_f g1, if_pos n0]
  · have m0 : Mf h (up h 167 0 0) := Mf_self hI
    refine ⟨-2, h, -2, up h 167 0 0, ?_, ?_, rfl, m0.1⟩
    · unfold sf_drawn; rw [if_pos (by rw [tc]; exact g0)]
    · unfold md_drawn
      rw [lt_eq, Mf_isF hI m0, bd_some, bI_f g0, if_pos n0]
theorem st_luck : St_luck INV := by
  intro h hI a1 a2 a3 w1 w2 w3
  have b2 := in32 w2
  have n1 : ¬ wr 1 = 0 := by decide
  have n0 : wr 0 = 0 := rfl
  have k1 : wr 1 = 1 := rfl
  have k20 : wr 20 = 20 := rfl
  have lP := (INV_l hI).2.2.2.2.2.1
  by_cases g3 : 0 ≤ a3 ∧ a3 < h 9 5
  · by_cases g1 : 0 ≤ a1 ∧ a1 ≤ 2000000000
    · by_cases g2 : 1 ≤ a2 ∧ a2 ≤ 20
      · obtain ⟨sW, sF, eK, eL, eP, eN⟩ := Sea_ok hI 0
        have gr : ∀ i, grS (spS (Sea h 0) (h 9 4) (a1 + i)) a3 = -1 ∨ ¬ grS (spS (Sea h 0) (h 9 4) (a1 + i)) a3 = -1 := fun i => Classical.em _
        obtain ⟨r, e, r1, r2⟩ := lp (body := sf_luck_b1 a1 a2 a3) (s0 := (0, 0, h)) (Q := fun r => r.1 = sm a2 (fun i => if grS (spS (Sea h 0) (h 9 4) (a1 + i)) a3 = -1 then 1 else 0) ∧ Mf h r.2) (fun i s => s.1 = sm i (fun i => if grS (spS (Sea h 0) (h 9 4) (a1 + i)) a3 = -1 then 1 else 0) ∧ s.2.1 = i ∧ Mf h s.2.2) a2 (by omega) (by omega) ⟨rfl, rfl, Mf_rfl hI⟩ (fun i s a b hi => by
          obtain ⟨v, c, m⟩ := s
          obtain ⟨q1, q2, q3⟩ := hi
          dsimp only at q1 q2 q3
          subst q2
          obtain ⟨F, hR, hs⟩ := c_rdy q3
          have e0 : sf_seasonAt m 0 = some (63, F) := hs 0 (by omega) (by omega)
          obtain ⟨m', e1, k1', hR1⟩ := c_draw hI hR (x := a1 + c) (by omega)
          have x1 : m' 25 a3 = grS (spS (Sea h 0) (h 9 4) (a1 + c)) a3 := k1'.2.2.2.1 a3 g3.1 (show a3 < sP (Sea h 0) by omega)
          have gi := grS_in (spS (Sea h 0) (h 9 4) (a1 + c)) a3
          refine ⟨(sm (c + 1) (fun i => if grS (spS (Sea h 0) (h 9 4) (a1 + i)) a3 = -1 then 1 else 0), c + 1, m'), ?_, rfl, rfl, hR1.1⟩
          rw [sm_succ a, ← q1]
          unfold sf_luck_b1
          dsimp only
          rw [w2, w32 (show -1000000 ≤ c ∧ c ≤ 1000000 by omega), if_pos b, e0, bd_some]
          dsimp only
          rw [chk_t sh63, Mf_9 hR.1, e1, bd_some]
          dsimp only
          rw [w3, chk_t (by omega)]
          simp only [x1]
          rw [w32 (show -1000000 ≤ grS (spS (Sea h 0) (h 9 4) (a1 + c)) a3 ∧ grS (spS (Sea h 0) (h 9 4) (a1 + c)) a3 ≤ 1000000 by omega), show wr (-1) = -1 from rfl]
          rcases gr c with z | z
          · rw [if_pos z, if_pos z]
          · rw [if_neg z, if_neg z, Int.add_zero]) (fun s hi => by
          obtain ⟨v, c, m⟩ := s
          obtain ⟨q1, q2, q3⟩ := hi
          dsimp only at q1 q2 q3
          subst q2
          refine ⟨(v, m), ?_, q1, q3⟩
          unfold sf_luck_b1
          dsimp only
          rw [if_neg (by omega)])
        obtain ⟨v, m⟩ := r
        dsimp only at r1 r2
        have m0 : Mf h (up m 167 0 0) := Mf_up r2 (by omega) (by omega) (by omega)
        have q := m_in (t := up m 167 0 0) (a := a2) (x := 1) (y := 20) (by omega) (by omega) (by omega)
        obtain ⟨r, e', z1, z2⟩ := lp (body := md_luck_b1 a1 a2 a3) (s0 := (0, 0, up m 167 0 0)) (Q := fun r => r.1 = sm a2 (fun i => if grS (spS (Sea h 0) (h 9 4) (a1 + i)) a3 = -1 then 1 else 0) ∧ Mf h r.2) (fun i s => s.1 = sm i (fun i => if grS (spS (Sea h 0) (h 9 4) (a1 + i)) a3 = -1 then 1 else 0) ∧ s.2.1 = i ∧ Mf h s.2.2) a2 (by omega) (by omega) ⟨rfl, rfl, m0⟩ (fun i s a b hi => by
          obtain ⟨v, c, m⟩ := s
          obtain ⟨q1, q2, q3⟩ := hi
          dsimp only at q1 q2 q3
          subst q2
          obtain ⟨m', e1, k1', hR1⟩ := m_draw hI q3 (x := a1 + c) (by omega)
          have ok : WF (spS (Sea h 0) (h 9 4) (a1 + c)) ∧ Full (spS (Sea h 0) (h 9 4) (a1 + c)) := wH_ok _ sW sF
          have x1 : m' 183 a3 = grS (spS (Sea h 0) (h 9 4) (a1 + c)) a3 := MA_g ok.2 k1' (show 0 ≤ a3 ∧ a3 < sP (Sea h 0) by omega)
          have gi := grS_in (spS (Sea h 0) (h 9 4) (a1 + c)) a3
          refine ⟨(sm (c + 1) (fun i => if grS (spS (Sea h 0) (h 9 4) (a1 + i)) a3 = -1 then 1 else 0), c + 1, m'), ?_, rfl, rfl, hR1⟩
          rw [sm_succ a, ← q1]
          unfold md_luck_b1
          dsimp only
          rw [w1, w2, w32 (show -1000000 ≤ c ∧ c ≤ 1000000 by omega), if_pos b, e1, bd_some]
          dsimp only
          rw [w3, chk_t (by omega)]
          simp only [x1]
          rw [w32 (show -1000000 ≤ grS (spS (Sea h 0) (h 9 4) (a1 + c)) a3 ∧ grS (spS (Sea h 0) (h 9 4) (a1 + c)) a3 ≤ 1000000 by omega), show wr (-1) = -1 from rfl]) (fun s hi => by
          obtain ⟨v, c, m⟩ := s
          obtain ⟨q1, q2, q3⟩ := hi
          dsimp only at q1 q2 q3
          subst q2
          refine ⟨(v, m), ?_, q1, q3⟩
          unfold md_luck_b1
          dsimp only
          rw [if_neg (by omega)])
        obtain ⟨v', m'⟩ := r
        dsimp only at z1 z2
        refine ⟨v, m, v', m', ?_, ?_, by rw [r1, z1], z2.1⟩
        · unfold sf_luck
          rw [c_isP hI w3, bd_some, bI_t g3, if_neg n1, c_seed w1, bd_some, bI_t g1, if_neg n1, w2, k1, k20, if_pos g2.1, if_neg (by omega), e, bd_some]
        · unfold md_luck
          rw [lt_eq, m_seed w1, bd_some, bI_t g1, if_neg n1, w2, q, bd_some, bI_t g2, if_neg n1, Mf_isP hI m0 w3, bd_some, bI_t g3, if_neg n1, e', bd_some]
      · have m0 : Mf h (up h 167 0 0) := Mf_self hI
        have q := m_in (t := up h 167 0 0) (a := a2) (x := 1) (y := 20) (by omega) (by omega) (by omega)
        refine ⟨-2, h, -2, up h 167 0 0, ?_, ?_, rfl, m0.1⟩
        · unfold sf_luck
          rw [c_isP hI w3, bd_some, bI_t g3, if_neg n1, c_seed w1, bd_some, bI_t g1, if_neg n1, w2, k1, k20]
          by_cases z : 1 ≤ a2
          · rw [if_pos z, if_pos (by omega)]
          · rw [if_neg z]
        · unfold md_luck
          rw [lt_eq, m_seed w1, bd_some, bI_t g1, if_neg n1, w2, q, bd_some, bI_f g2, if_pos n0]
    · have m0 : Mf h (up h 167 0 0) := Mf_self hI
      refine ⟨-2, h, -2, up h 167 0 0, ?_, ?_, rfl, m0.1⟩
      · unfold sf_luck
        rw [c_isP hI w3, bd_some, bI_t g3, if_neg n1, c_seed w1, bd_some, bI_f g1, if_pos n0]
      · unfold md_luck
        rw [lt_eq, m_seed w1, bd_some, bI_f g1, if_pos n0]
  · have m0 : Mf h (up h 167 0 0) := Mf_self hI
    have q := m_in (t := up h 167 0 0) (a := a2) (x := 1) (y := 20) (by omega) (by omega) (by omega)
    refine ⟨-2, h, -2, up h 167 0 0, ?_, ?_, rfl, m0.1⟩
    · unfold sf_luck
      rw [c_isP hI w3, bd_some, bI_f g3, if_pos n0]
    · unfold md_luck
      rw [lt_eq, m_seed w1, bd_some]
      by_cases z1 : 0 ≤ a1 ∧ a1 ≤ 2000000000
      · rw [bI_t z1, if_neg n1, w2, q, bd_some]
        by_cases z2 : 1 ≤ a2 ∧ a2 ≤ 20
        · rw [bI_t z2, if_neg n1, Mf_isP hI m0 w3, bd_some, bI_f g3, if_pos n0]
        · rw [bI_f z2, if_pos n0]
      · rw [bI_f z1, if_pos n0]
