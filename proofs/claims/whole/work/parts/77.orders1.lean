/-! Layer 2: orders: rows one behind the other -/
def pvF (R : Int → Int) : Nat → Int
  | 0 => -1
  | n + 1 => if R ((n : Int) + 1) < R (n : Int) then pvF R n else (n : Int)
def nxN (R : Int → Int) (p : Int) : Nat → Int
  | 0 => 0
  | n + 1 => if p < (n : Int) + 1 ∧ R ((n : Int) + 1) < R p then nxN R p n else (n : Int) + 1
def xcR (R : Int → Int) (a b : Int) : Int → Int := fun x => if x = b then R a else if x = a then R b else R x
def pvI' (R : Int → Int) (P : Int) : Int := pvF R (P - 1).toNat
def nxI (R : Int → Int) (P : Int) : Int := nxN R (pvI' R P) (P - 1).toNat
def nxR (R : Int → Int) (P x : Int) : Int := if x ≤ pvI' R P then xcR R (pvI' R P) (nxI R P) x else xcR R (pvI' R P) (nxI R P) (P + pvI' R P - x)
def nxL (P : Nat) (l : List Int) : List Int := (List.range P).map (fun x : Nat => nxR (rwL l) (P : Int) (x : Int))
def idL (l : List Int) (p : Int) : Int := ((l.findIdx (fun q => q == p) : Nat) : Int)
def okRow (P : Nat) (l : List Int) : Bool := (l.length == P) && (List.range P).all (fun x : Nat => decide (0 ≤ rwL l (x : Int) ∧ rwL l (x : Int) < (P : Int) ∧ idL l (rwL l (x : Int)) = (x : Int) ∧ idL l (x : Int) < (P : Int) ∧ rwL l (idL l (x : Int)) = (x : Int)))
def okC (P : Nat) : List (List Int) → Bool
  | [] => true
  | l :: r => okRow P l && (match r with
    | [] => decide (pvI' (rwL l) (P : Int) < 0)
    | l' :: _ => decide (0 ≤ pvI' (rwL l) (P : Int)) && decide (pvI' (rwL l) (P : Int) < nxI (rwL l) (P : Int) ∧ nxI (rwL l) (P : Int) < (P : Int)) && (nxL P l == l')) && okC P r
theorem dc_ok : ∀ P : Fin 7, okC P (pm P P []) = true := by decide +kernel
theorem dc_hd : ∀ P : Fin 7, (pm P P []).head? = some ((List.range P).map (fun x : Nat => (x : Int))) := by decide +kernel
theorem dc_len : ∀ P : Fin 7, (pm P P []).length ≤ 720 := by decide +kernel
theorem okC_mem {P : Nat} : ∀ {L : List (List Int)}, okC P L = true → ∀ l, l ∈ L → okRow P l = true := by
  intro L
  induction L with
  | nil => intro _ l hl; cases hl
  | cons a r ih =>
    intro h l hl
    unfold okC at h
    have h1 := (Bool.and_eq_true _ _).mp h
    have h2 := (Bool.and_eq_true _ _).mp h1.1
    rcases List.mem_cons.mp hl with e | e
    · rw [e]; exact h2.1
    · exact ih h1.2 l e
theorem okRow_x {P : Nat} {l : List Int} (h : okRow P l = true) {x : Int} (hx : 0 ≤ x ∧ x < (P : Int)) : 0 ≤ rwL l x ∧ rwL l x < (P : Int) ∧ idL l (rwL l x) = x ∧ idL l x < (P : Int) ∧ rwL l (idL l x) = x := by
  have h1 := ((Bool.and_eq_true _ _).mp h).2
  have := of_decide_eq_true (List.all_eq_true.mp h1 x.toNat (List.mem_range.mpr (by omega)))
  rw [show ((x.toNat : Nat) : Int) = x by omega] at this
  exact this
theorem rwL_map {P : Nat} {f : Nat → Int} {x : Int} (hx : 0 ≤ x ∧ x < (P : Int)) : rwL ((List.range P).map f) x = f x.toNat := by
  unfold rwL
  rw [List.getD_eq_getElem?_getD, List.getElem?_map, List.getElem?_range (by omega)]
  rfl
theorem rwL_nx {P : Nat} {l : List Int} {x : Int} (hx : 0 ≤ x ∧ x < (P : Int)) : rwL (nxL P l) x = nxR (rwL l) (P : Int) x := by
  unfold nxL
  rw [rwL_map hx, show ((x.toNat : Nat) : Int) = x by omega]
/-! the class goes to the next row -/
theorem c_xch {m : Hp} {R : Int → Int} {P a b : Int} (hP : P ≤ 6) (hR : ∀ x, 0 ≤ x → x < P → m 31 x = R x) (ha : 0 ≤ a ∧ a < P) (hb : 0 ≤ b ∧ b < P) : ∃ g, od_exchange m a b = some g ∧ (∀ k, k ≠ 31 → g k = m k) ∧ ∀ x, 0 ≤ x → x < P → g 31 x = xcR R a b x := by
  refine ⟨up (up m 31 a (R b)) 31 b (R a), ?_, fun k hk => by rw [up_nk hk, up_nk hk], fun x h1 h2 => ?_⟩
  · unfold od_exchange
    rw [w32 (show -1000000 ≤ a ∧ a ≤ 1000000 by omega), w32 (show -1000000 ≤ b ∧ b ≤ 1000000 by omega), chk_t (by omega), chk_t (by omega), chk_t (by omega), lt_eq, chk_t (by omega), lt_eq, hR a ha.1 ha.2, hR b hb.1 hb.2]
  · unfold xcR
    by_cases z : x = b
    · rw [if_pos z, z, up_eq]
    · rw [if_neg z, up_ni z]
      by_cases z2 : x = a
      · rw [if_pos z2, z2, up_eq]
      · rw [if_neg z2, up_ni z2]; exact hR x h1 h2
theorem c_piv {m : Hp} {R : Int → Int} {P : Int} (hP : P ≤ 6) (hR : ∀ x, 0 ≤ x → x < P → m 31 x = R x) (hb : ∀ x, 0 ≤ x → x < P → 0 ≤ R x ∧ R x < P) : ∀ (n : Nat), (n : Int) < P → ∀ f, n < f → iter f (od_goToNextRow_b1 m) ((n : Int) - 1) = some (pvF R n) := by
  intro n
  induction n with
  | zero =>
    intro h0 f hf
    obtain ⟨f', ef⟩ : ∃ f', f = f' + 1 := ⟨f - 1, by omega⟩
    subst ef
    unfold iter od_goToNextRow_b1
    rw [w32 (by omega), if_neg (by omega)]
    rfl
  | succ n ih =>
    intro h0 f hf
    obtain ⟨f', ef⟩ : ∃ f', f = f' + 1 := ⟨f - 1, by omega⟩
    subst ef
    have b1 := hb (n : Int) (by omega) (by omega)
    have b2 := hb ((n : Int) + 1) (by omega) (by omega)
    unfold iter od_goToNextRow_b1 pvF
    rw [show (((n + 1 : Nat) : Int) - 1) = (n : Int) by omega, w32 (show -1000000 ≤ (n : Int) ∧ (n : Int) ≤ 1000000 by omega), w32 (show -1000000 ≤ (n : Int) + 1 ∧ (n : Int) + 1 ≤ 1000000 by omega), if_pos (by omega), chk_t (by omega), chk_t (by omega), hR (n : Int) (by omega) (by omega), hR ((n : Int) + 1) (by omega) (by omega), w32 (show -1000000 ≤ R (n : Int) ∧ R (n : Int) ≤ 1000000 by omega), w32 (show -1000000 ≤ R ((n : Int) + 1) ∧ R ((n : Int) + 1) ≤ 1000000 by omega)]
    by_cases z : R ((n : Int) + 1) < R (n : Int)
    · rw [if_pos z, if_pos z]
      exact ih (by omega) f' (by omega)
    · rw [if_neg z, if_neg z]
theorem c_nxt {m : Hp} {R : Int → Int} {P p : Int} (hP : P ≤ 6) (hR : ∀ x, 0 ≤ x → x < P → m 31 x = R x) (hb : ∀ x, 0 ≤ x → x < P → 0 ≤ R x ∧ R x < P) (hp : 0 ≤ p ∧ p < P) : ∀ (n : Nat), (n : Int) < P → ∀ f, n < f → iter f (od_goToNextRow_b2 m p) (n : Int) = some (nxN R p n) := by
  have b3 := hb p hp.1 hp.2
  intro n
  induction n with
  | zero =>
    intro h0 f hf
    obtain ⟨f', ef⟩ : ∃ f', f = f' + 1 := ⟨f - 1, by omega⟩
    subst ef
    unfold iter od_goToNextRow_b2
    rw [w32 (show -1000000 ≤ p ∧ p ≤ 1000000 by omega), w32 (show -1000000 ≤ ((0 : Nat) : Int) ∧ ((0 : Nat) : Int) ≤ 1000000 by omega), if_neg (by omega)]
    rfl
  | succ n ih =>
    intro h0 f hf
    obtain ⟨f', ef⟩ : ∃ f', f = f' + 1 := ⟨f - 1, by omega⟩
    subst ef
    have b2 := hb ((n : Int) + 1) (by omega) (by omega)
    have eb : od_goToNextRow_b2 m p ((n + 1 : Nat) : Int) = if p < (n : Int) + 1 ∧ R ((n : Int) + 1) < R p then some (.inl (n : Int)) else some (.inr ((n : Int) + 1)) := by
      unfold od_goToNextRow_b2
      rw [show (((n + 1 : Nat) : Int)) = (n : Int) + 1 by omega, w32 (show -1000000 ≤ p ∧ p ≤ 1000000 by omega), w32 (show -1000000 ≤ (n : Int) + 1 ∧ (n : Int) + 1 ≤ 1000000 by omega)]
      by_cases z0 : p < (n : Int) + 1
      · rw [if_pos z0, chk_t (by omega), chk_t (by omega), hR p hp.1 hp.2, hR ((n : Int) + 1) (by omega) (by omega), w32 (show -1000000 ≤ R p ∧ R p ≤ 1000000 by omega), w32 (show -1000000 ≤ R ((n : Int) + 1) ∧ R ((n : Int) + 1) ≤ 1000000 by omega)]
        by_cases z : R ((n : Int) + 1) < R p
        · rw [if_pos z, if_pos ⟨z0, z⟩, show (n : Int) + 1 + -1 = (n : Int) by omega]
        · rw [if_neg z, if_neg (fun y => z y.2)]
      · rw [if_neg z0, if_neg (fun y => z0 y.1)]
    unfold iter nxN
    rw [eb]
    by_cases z : p < (n : Int) + 1 ∧ R ((n : Int) + 1) < R p
    · rw [if_pos z, if_pos z]
      exact ih (by omega) f' (by omega)
    · rw [if_neg z, if_neg z]
theorem c_rev {m : Hp} {R : Int → Int} {P p : Int} (hP : 0 ≤ P ∧ P ≤ 6) (hR : ∀ x, 0 ≤ x → x < P → m 31 x = R x) (hp : 0 ≤ p ∧ p < P) : ∃ g, iter FU od_goToNextRow_b3 (P - 1, p + 1, m) = some g ∧ (∀ k, k ≠ 31 → g k = m k) ∧ ∀ x, 0 ≤ x → x < P → g 31 x = if x ≤ p then R x else R (P + p - x) := by
  refine lp (fun i s => s.1 = P - 1 - i ∧ s.2.1 = p + 1 + i ∧ (∀ k, k ≠ 31 → s.2.2 k = m k) ∧ ∀ x, 0 ≤ x → x < P → s.2.2 31 x = if x ≤ p then R x else if x < p + 1 + i ∨ P - 1 - i < x then R (P + p - x) else R x) ((P - 1 - p) / 2) (by omega) (by omega) ⟨by dsimp only; omega, by dsimp only; omega, fun _ _ => rfl, fun x a b => by
      dsimp only
      rw [hR x a b]
      by_cases z : x ≤ p
      · rw [if_pos z]
      · rw [if_neg z, if_neg (by omega)]⟩ (fun i s a b hi => ?_) (fun s hi => ?_)
  · obtain ⟨r, l, g⟩ := s
    obtain ⟨q1, q2, q3, q4⟩ := hi
    dsimp only at q1 q2 q3 q4
    obtain ⟨g', e, x1, x2⟩ := c_xch (m := g) (R := fun x => if x ≤ p then R x else if x < p + 1 + i ∨ P - 1 - i < x then R (P + p - x) else R x) (P := P) (a := l) (b := r) hP.2 q4 (by omega) (by omega)
    refine ⟨(r + (-1), l + 1, g'), ?_, by dsimp only; omega, by dsimp only; omega, fun k hk => by dsimp only; rw [x1 k hk]; exact q3 k hk, fun x h1 h2 => ?_⟩
    · unfold od_goToNextRow_b3
      dsimp only
      rw [w32 (show -1000000 ≤ l ∧ l ≤ 1000000 by omega), w32 (show -1000000 ≤ r ∧ r ≤ 1000000 by omega), if_pos (by omega), e, bd_some]
    · dsimp only
      rw [x2 x h1 h2]
      unfold xcR
      dsimp only
      by_cases z : x ≤ p
      · rw [if_neg (by omega), if_neg (by omega), if_pos z, if_pos z]
      · by_cases z1 : x = r
        · rw [if_pos z1, if_neg (show ¬ l ≤ p by omega), if_neg (show ¬ (l < p + 1 + i ∨ P - 1 - i < l) by omega), if_neg z, if_pos (by omega)]
          congr 1; omega
        · rw [if_neg z1]
          by_cases z2 : x = l
          · rw [if_pos z2, if_neg (show ¬ r ≤ p by omega), if_neg (show ¬ (r < p + 1 + i ∨ P - 1 - i < r) by omega), if_neg z, if_pos (by omega)]
            congr 1; omega
          · rw [if_neg z2, if_neg z, if_neg z]
            by_cases z3 : x < p + 1 + i ∨ P - 1 - i < x
            · rw [if_pos z3, if_pos (by omega)]
            · rw [if_neg z3, if_neg (by omega)]
  · obtain ⟨r, l, g⟩ := s
    obtain ⟨q1, q2, q3, q4⟩ := hi
    dsimp only at q1 q2 q3 q4
    refine ⟨g, ?_, q3, fun x h1 h2 => ?_⟩
    · unfold od_goToNextRow_b3
      dsimp only
      rw [w32 (show -1000000 ≤ l ∧ l ≤ 1000000 by omega), w32 (show -1000000 ≤ r ∧ r ≤ 1000000 by omega), if_neg (by omega)]
    · rw [q4 x h1 h2]
      by_cases z : x ≤ p
      · rw [if_pos z, if_pos z]
      · rw [if_neg z, if_neg z]
        by_cases z3 : x < p + 1 + (P - 1 - p) / 2 ∨ P - 1 - (P - 1 - p) / 2 < x
        · rw [if_pos z3]
        · rw [if_neg z3]
          congr 1; omega
theorem c_next {m : Hp} {R : Int → Int} {P : Int} (hP : 0 ≤ P ∧ P ≤ 6) (h8 : m 27 8 = P) (hR : ∀ x, 0 ≤ x → x < P → m 31 x = R x) (hb : ∀ x, 0 ≤ x → x < P → 0 ≤ R x ∧ R x < P) : (pvI' R P < 0 → od_goToNextRow m = some (0, m)) ∧ (0 ≤ pvI' R P → (pvI' R P < nxI R P ∧ nxI R P < P) → ∃ g, od_goToNextRow m = some (1, g) ∧ (∀ k, k ≠ 31 → g k = m k) ∧ ∀ x, 0 ≤ x → x < P → g 31 x = nxR R P x) := by
  have e1 : ∃ v, iter FU (od_goToNextRow_b1 m) (P - 2) = some v ∧ ((v < 0 ∧ pvI' R P < 0) ∨ v = pvI' R P) ∧ -2 ≤ v ∧ v ≤ 6 := by
    by_cases z : P = 0
    · refine ⟨-2, ?_, Or.inl ⟨by omega, ?_⟩, by omega, by omega⟩
      · rw [z]
        show iter (99999 + 1) (od_goToNextRow_b1 m) (0 - 2) = _
        unfold iter od_goToNextRow_b1
        rw [w32 (by omega), if_neg (by omega)]
        rfl
      · unfold pvI'
        rw [z]
        show (-1 : Int) < 0
        omega
    · have := c_piv hP.2 hR hb (P - 1).toNat (by omega) FU (by unfold FU; omega)
      rw [show (((P - 1).toNat : Nat) : Int) - 1 = P - 2 by omega] at this
      have pi : ∀ n : Nat, -1 ≤ pvF R n ∧ pvF R n < (n : Int) + 1 := by
        intro n
        induction n with
        | zero => show -1 ≤ (-1 : Int) ∧ (-1 : Int) < ((0 : Nat) : Int) + 1; omega
        | succ n ih => unfold pvF; split <;> omega
      have := pi (P - 1).toNat
      exact ⟨pvI' R P, by assumption, Or.inr rfl, by unfold pvI'; omega, by unfold pvI'; omega⟩
  obtain ⟨v, ev, hv, hi⟩ := e1
  constructor
  · intro z
    unfold od_goToNextRow
    rw [h8, ev, bd_some, w32 (by omega), if_pos (by rcases hv with y | y <;> omega)]
  · intro z1 z2
    have ve : v = pvI' R P := by rcases hv with y | y <;> omega
    have e2 := c_nxt (p := pvI' R P) hP.2 hR hb (by omega) (P - 1).toNat (by omega) FU (by unfold FU; omega)
    rw [show (((P - 1).toNat : Nat) : Int) = P - 1 by omega] at e2
    obtain ⟨g1, e3, x1, x2⟩ := c_xch (a := pvI' R P) (b := nxI R P) hP.2 hR (by omega) (by omega)
    have g8 : g1 27 8 = P := by rw [x1 27 (by omega)]; exact h8
    obtain ⟨g2, e4, y1, y2⟩ := c_rev (p := pvI' R P) hP x2 (by omega)
    refine ⟨g2, ?_, fun k hk => by rw [y1 k hk, x1 k hk], fun x h1 h2 => by rw [y2 x h1 h2]; rfl⟩
    unfold od_goToNextRow
    rw [h8, ev, bd_some, ve, w32 (by omega), if_neg (by omega)]
    have e2' : iter FU (od_goToNextRow_b2 m (pvI' R P)) (P - 1) = some (nxI R P) := e2
    rw [e2', bd_some, e3, bd_some, g8, e4, bd_some]
/-! the class weighs a row -/
theorem wt_in {S : Sn} (hW : WF S) (p w : Int) : -18 ≤ wtS S p w ∧ wtS S p w ≤ 9 := by
  have h1 := taS_in hW p (guS S p w)
  have h2 := stS_in hW p w (guS S p w)
  unfold wtS
  omega
theorem ba_in (S : Sn) (p w : Int) : 0 ≤ baS S p w ∧ baS S p w ≤ 1 := by unfold baS; split <;> omega
theorem ws_in {S : Sn} (hW : WF S) (R : Int → Int) {n : Int} (L : Int) {i : Int} (hi : 0 ≤ i ∧ i ≤ 6) : -108 ≤ sm i (fun x => wtS S (R x) (dcR R n L x)) ∧ sm i (fun x => wtS S (R x) (dcR R n L x)) ≤ 54 := by
  have := sm_le hi.1 (f := fun x => wtS S (R x) (dcR R n L x)) (m := -18) (M := 9) (fun x _ _ => wt_in hW _ _)
  omega
theorem bw_in2 (S : Sn) (R : Int → Int) {n : Int} (L : Int) {i : Int} (hi : 0 ≤ i ∧ i ≤ 6) : 0 ≤ sm i (fun x => baS S (R x) (dcR R n L x)) ∧ sm i (fun x => baS S (R x) (dcR R n L x)) ≤ 6 := by
  have := sm_le hi.1 (f := fun x => baS S (R x) (dcR R n L x)) (m := 0) (M := 1) (fun x _ _ => ba_in S _ _)
  omega
theorem c_sumUp {m : Hp} {S : Sn} (hW : WF S) (hO : OT m S) {R : Int → Int} {n : Int} (hn : 0 ≤ n ∧ n ≤ sP S) (hR : ∀ x, 0 ≤ x → x < n → m 31 x = R x ∧ 0 ≤ R x ∧ R x < sP S) : ∃ g, od_sumUp m n = some g ∧ (∀ k, k ≠ 27 → g k = m k) ∧ (∀ j, j ≠ 10 → j ≠ 11 → g 27 j = m 27 j) ∧ g 27 10 = wsR S R n ∧ g 27 11 = bsR S R n := by
  have hP := hW.2.2.1
  have hL := hW.2.1
  obtain ⟨o8, o9, oT⟩ := hO
  obtain ⟨g, e, r⟩ := lp (body := od_sumUp_b1 n) (s0 := (0, up (up m 27 10 0) 27 11 0)) (Q := fun g => (∀ k, k ≠ 27 → g k = m k) ∧ (∀ j, j ≠ 10 → j ≠ 11 → g 27 j = m 27 j) ∧ g 27 10 = wsR S R n ∧ g 27 11 = bsR S R n) (fun i s => s.1 = i ∧ (∀ k, k ≠ 27 → s.2 k = m k) ∧ (∀ j, j ≠ 10 → j ≠ 11 → s.2 27 j = m 27 j) ∧ s.2 27 10 = sm i (fun x => wtS S (R x) (dcR R n (sL S) x)) ∧ s.2 27 11 = sm i (fun x => baS S (R x) (dcR R n (sL S) x))) n hn.1 (by omega) ⟨rfl, fun k hk => by dsimp only; rw [up_nk hk, up_nk hk], fun j h1 h2 => by dsimp only; rw [up_ni h2, up_ni h1], by dsimp only; rw [up_ni (by omega), up_eq]; rfl, by dsimp only; rw [up_eq]; rfl⟩ (fun i s a b hi => by
    obtain ⟨x, q⟩ := s
    obtain ⟨q1, q2, q3, q4, q5⟩ := hi
    dsimp only at q1 q2 q3 q4 q5
    subst q1
    have hx := hR x a b
    have ed := c_dec (h := q) (a := 31) (R := R) (n := n) (L := sL S) (x := x) (by omega) hL ⟨a, b⟩ (fun y u v => by rw [q2 31 (by omega)]; exact (hR y u v).1)
    have di := dcR_in (R := R) (n := n) (L := sL S) (x := x) (m := sP S) hn.1 ⟨a, b⟩ (fun y u v => (hR y u v).2)
    have q9 : q 27 9 = sL S := by rw [q3 9 (by omega) (by omega)]; exact o9
    have q31 : q 31 x = R x := by rw [q2 31 (by omega)]; exact hx.1
    have ot := oT (R x) (dcR R n (sL S) x) hx.2.1 hx.2.2 di.1 di.2
    have t29 : q 29 (R x * 7 + dcR R n (sL S) x + 1) = wtS S (R x) (dcR R n (sL S) x) := by rw [q2 29 (by omega)]; exact ot.1
    have t30 : ∀ v, up q 27 10 v 30 (R x * 7 + dcR R n (sL S) x + 1) = baS S (R x) (dcR R n (sL S) x) := fun v => by rw [up_nk (by omega), q2 30 (by omega)]; exact ot.2
    refine ⟨(x + 1, up (up q 27 10 (sm (x + 1) (fun x => wtS S (R x) (dcR R n (sL S) x)))) 27 11 (sm (x + 1) (fun x => baS S (R x) (dcR R n (sL S) x)))), ?_, rfl, fun k hk => by dsimp only; rw [up_nk hk, up_nk hk]; exact q2 k hk, fun j h1 h2 => by dsimp only; rw [up_ni h2, up_ni h1]; exact q3 j h1 h2, by dsimp only; rw [up_ni (by omega), up_eq], by dsimp only; rw [up_eq]⟩
    rw [sm_succ a, sm_succ a]
    unfold od_sumUp_b1
    dsimp only
    rw [q9, ed, w32 (show -1000000 ≤ x ∧ x ≤ 1000000 by omega), w32 (show -1000000 ≤ n ∧ n ≤ 1000000 by omega), if_pos b, chk_t (by omega), bd_some]
    simp only [q31]
    rw [w32 (show -1000000 ≤ R x * 7 + dcR R n (sL S) x + 1 ∧ R x * 7 + dcR R n (sL S) x + 1 ≤ 1000000 by omega), chk_t (by omega), lt_eq, chk_t (by omega), lt_eq, t29, q4, t30, up_ni (show (11 : Int) ≠ 10 by omega), q5]) (fun s hi => by
    obtain ⟨x, q⟩ := s
    obtain ⟨q1, q2, q3, q4, q5⟩ := hi
    dsimp only at q1 q2 q3 q4 q5
    subst q1
    refine ⟨q, ?_, q2, q3, q4, q5⟩
    unfold od_sumUp_b1
    dsimp only
    rw [if_neg (Int.lt_irrefl _)])
  refine ⟨g, ?_, r⟩
  unfold od_sumUp
  rw [lt_eq, lt_eq, e, bd_some]
def OdM (m : Hp) (P : Int) (z : Od) : Prop := m 27 0 = z.1 ∧ m 27 1 = z.2.1 ∧ m 27 2 = z.2.2.1 ∧ m 27 3 = z.2.2.2.1 ∧ ∀ x, 0 ≤ x → x < P → m 28 x = z.2.2.2.2 x
def zO : Od := (-100000, 0, 100000, 0, fun _ => 0)
theorem c_wRow {m : Hp} {S : Sn} (hW : WF S) (hO : OT m S) {l : List Int} (hR : ∀ x, 0 ≤ x → x < sP S → m 31 x = rwL l x ∧ 0 ≤ rwL l x ∧ rwL l x < sP S) {x0 : Int} {z : Od} (hx : (x0 = 1 ∧ z = zO ∧ m 27 1 = 0 ∧ m 27 3 = 0) ∨ (x0 = 0 ∧ OdM m (sP S) z ∧ (-108 ≤ z.1 ∧ z.1 ≤ 54) ∧ (0 ≤ z.2.2.1 ∧ z.2.2.1 ≤ 6))) : ∃ g, od_weighRow m x0 = some g ∧ OT g S ∧ OdM g (sP S) (od1 S z l) ∧ (∀ k, k ≠ 27 → k ≠ 28 → g k = m k) := by
  have hP := hW.2.2.1
  have hL := hW.2.1
  have hO' := hO
  obtain ⟨o8, o9, oT⟩ := hO'
  obtain ⟨g1, e1, f1, j1, s1, b1⟩ := c_sumUp hW hO (R := rwL l) (n := sP S) (by omega) hR
  have wi := ws_in hW (rwL l) (n := sP S) (sL S) (i := sP S) (by omega)
  have bi := bw_in2 S (rwL l) (n := sP S) (sL S) (i := sP S) (by omega)
  have wi' : -108 ≤ wsR S (rwL l) (sP S) ∧ wsR S (rwL l) (sP S) ≤ 54 := wi
  have bi' : 0 ≤ bsR S (rwL l) (sP S) ∧ bsR S (rwL l) (sP S) ≤ 6 := bi
  have g8 : g1 27 8 = sP S := by rw [j1 8 (by omega) (by omega)]; exact o8
  have w0 : wr 0 = 0 := rfl
  have wP : wr (sP S) = sP S := w32 (by omega)
  obtain ⟨N, eN⟩ : ∃ N, N = wsR S (rwL l) (sP S) := ⟨_, rfl⟩
  obtain ⟨B, eB⟩ : ∃ B, B = bsR S (rwL l) (sP S) := ⟨_, rfl⟩
  rw [← eN] at s1 wi'
  rw [← eB] at b1 bi'
  -- the best of them
  obtain ⟨g2, e2, c28, cf, cj, c0, c1⟩ : ∃ g2, (if wr x0 = 0 then if wr (g1 27 0) < wr (g1 27 10) then lt (up g1 27 0 (g1 27 10)) (fun h4 => lt (up h4 27 1 0) (fun h5 => chk (0 ≤ wr 0 ∧ 0 ≤ wr 0 ∧ 0 ≤ wr (h5 27 8) ∧ wr 0 + wr (h5 27 8) ≤ 6 ∧ wr 0 + wr (h5 27 8) ≤ 6) (lt (cpy h5 31 28 (wr 0) (wr 0) (wr (h5 27 8))) (fun h8 => some h8)))) else some g1 else lt (up g1 27 0 (g1 27 10)) (fun h10 => lt (up h10 27 1 0) (fun h11 => chk (0 ≤ wr 0 ∧ 0 ≤ wr 0 ∧ 0 ≤ wr (h11 27 8) ∧ wr 0 + wr (h11 27 8) ≤ 6 ∧ wr 0 + wr (h11 27 8) ≤ 6) (lt (cpy h11 31 28 (wr 0) (wr 0) (wr (h11 27 8))) (fun h14 => some h14))))) = some g2 ∧ (∀ x, 0 ≤ x → x < sP S → g2 28 x = if z.1 < N then rwL l x else z.2.2.2.2 x) ∧ (∀ k, k ≠ 27 → k ≠ 28 → g2 k = m k) ∧ (∀ j, j ≠ 0 → j ≠ 1 → g2 27 j = g1 27 j) ∧ g2 27 0 = (if z.1 < N then N else z.1) ∧ g2 27 1 = (if z.1 < N then 0 else z.2.1) := by
    have u8 : up (up g1 27 0 N) 27 1 0 27 8 = sP S := by rw [up_ni (by omega), up_ni (by omega)]; exact g8
    have ok : 0 ≤ (0 : Int) ∧ 0 ≤ (0 : Int) ∧ 0 ≤ sP S ∧ 0 + sP S ≤ 6 ∧ 0 + sP S ≤ 6 := by omega
    have yes : ∃ g2, chk (0 ≤ (0 : Int) ∧ 0 ≤ (0 : Int) ∧ 0 ≤ sP S ∧ 0 + sP S ≤ 6 ∧ 0 + sP S ≤ 6) (lt (cpy (up (up g1 27 0 N) 27 1 0) 31 28 0 0 (sP S)) (fun h8 => some h8)) = some g2 ∧ (∀ x, 0 ≤ x → x < sP S → g2 28 x = rwL l x) ∧ (∀ k, k ≠ 27 → k ≠ 28 → g2 k = m k) ∧ (∀ j, j ≠ 0 → j ≠ 1 → g2 27 j = g1 27 j) ∧ g2 27 0 = N ∧ g2 27 1 = 0 := by
      refine ⟨cpy (up (up g1 27 0 N) 27 1 0) 31 28 0 0 (sP S), by rw [chk_t ok, lt_eq], fun x u v => ?_, fun k h1 h2 => ?_, fun j h1 h2 => ?_, ?_, ?_⟩
      · rw [cpy_in (by omega), up_nk (by omega), up_nk (by omega), f1 31 (by omega), show (0 : Int) + (x - 0) = x by omega]
        exact (hR x u v).1
      · rw [cpy_nk h2, up_nk h1, up_nk h1]; exact f1 k h1
      · rw [cpy_nk (by omega), up_ni h2, up_ni h1]
      · rw [cpy_nk (by omega), up_ni (by omega), up_eq]
      · rw [cpy_nk (by omega), up_eq]
    obtain ⟨gy, y1, y2, y3, y4, y5, y6⟩ := yes
    rcases hx with ⟨x1, x2, x3, x4⟩ | ⟨x1, ⟨x2, x3, x4, x5, x6⟩, x7, x8⟩
    · have zl : z.1 < N := by rw [x2]; show (-100000 : Int) < N; omega
      refine ⟨gy, ?_, fun x u v => by rw [if_pos zl]; exact y2 x u v, y3, y4, by rw [if_pos zl]; exact y5, by rw [if_pos zl]; exact y6⟩
      rw [x1, if_neg (by decide), lt_eq, s1, lt_eq, u8, wP, w0]; exact y1
    · have g0 : g1 27 0 = z.1 := by rw [j1 0 (by omega) (by omega)]; exact x2
      rw [x1, if_pos w0, g0, s1, w32 (show -1000000 ≤ z.1 ∧ z.1 ≤ 1000000 by omega), w32 (show -1000000 ≤ N ∧ N ≤ 1000000 by omega)]
      by_cases zl : z.1 < N
      · refine ⟨gy, ?_, fun x u v => by rw [if_pos zl]; exact y2 x u v, y3, y4, by rw [if_pos zl]; exact y5, by rw [if_pos zl]; exact y6⟩
        rw [if_pos zl, lt_eq, lt_eq, u8, wP, w0]; exact y1
      · refine ⟨g1, by rw [if_neg zl], fun x u v => by rw [if_neg zl, f1 28 (by omega)]; exact x6 x u v, fun k h1 _ => f1 k h1, fun _ _ _ => rfl, by rw [if_neg zl]; exact g0, by rw [if_neg zl, j1 1 (by omega) (by omega)]; exact x3⟩
  obtain ⟨W, eW⟩ : ∃ W, W = (if z.1 < N then N else z.1) := ⟨_, rfl⟩
  obtain ⟨V, eV⟩ : ∃ V, V = (if z.1 < N then 0 else z.2.1) := ⟨_, rfl⟩
  rw [← eW] at c0
  rw [← eV] at c1
  have Wi : -108 ≤ W ∧ W ≤ 54 := by
    rw [eW]
    rcases hx with ⟨x1, x2, x3, x4⟩ | ⟨x1, _, x7, x8⟩
    · rw [if_pos (by rw [x2]; show (-100000 : Int) < N; omega)]; omega
    · split <;> omega
  have t10 : g2 27 10 = N := by rw [cj 10 (by omega) (by omega)]; exact s1
  obtain ⟨g3, e3, d28, df, dj, d1⟩ : ∃ g3, (if wr (g2 27 10) = wr (g2 27 0) then lt (up g2 27 1 (g2 27 1 + 1)) (fun h18 => some h18) else some g2) = some g3 ∧ g3 28 = g2 28 ∧ (∀ k, k ≠ 27 → g3 k = g2 k) ∧ (∀ j, j ≠ 1 → g3 27 j = g2 27 j) ∧ g3 27 1 = (if N = W then V + 1 else V) := by
    rw [t10, c0, c1, w32 (show -1000000 ≤ N ∧ N ≤ 1000000 by omega), w32 (show -1000000 ≤ W ∧ W ≤ 1000000 by omega)]
    by_cases y : N = W
    · exact ⟨_, by rw [if_pos y, lt_eq], up_nk (by omega), fun k hk => up_nk hk, fun j hj => up_ni hj, by rw [if_pos y, up_eq]⟩
    · exact ⟨g2, by rw [if_neg y], rfl, fun _ _ => rfl, fun _ _ => rfl, by rw [if_neg y]; exact c1⟩
  have t11 : g3 27 11 = B := by rw [dj 11 (by omega), cj 11 (by omega) (by omega)]; exact b1
  obtain ⟨FW, eF⟩ : ∃ FW, FW = (if B < z.2.2.1 then B else z.2.2.1) := ⟨_, rfl⟩
  have ef : (if wr x0 = 0 then imin (g3 27 2) (g3 27 11) else g3 27 11) = FW := by
    rw [t11, eF]
    rcases hx with ⟨x1, x2, x3, x4⟩ | ⟨x1, ⟨x2, x3, x4, x5, x6⟩, x7, x8⟩
    · rw [x1, if_neg (by decide), x2]
      show B = if B < (100000 : Int) then B else 100000
      rw [if_pos (by omega)]
    · have : g3 27 2 = z.2.2.1 := by rw [dj 2 (by omega), cj 2 (by omega) (by omega), j1 2 (by omega) (by omega)]; exact x4
      rw [x1, if_pos w0, this]
      unfold imin
      rw [w32 (show -1000000 ≤ z.2.2.1 ∧ z.2.2.1 ≤ 1000000 by omega), w32 (show -1000000 ≤ B ∧ B ≤ 1000000 by omega)]
  obtain ⟨g4, eg4⟩ : ∃ g4, g4 = up g3 27 2 FW := ⟨_, rfl⟩
  have t11' : g4 27 11 = B := by rw [eg4, up_ni (by omega)]; exact t11
  have t3 : g4 27 3 = z.2.2.2.1 := by
    rw [eg4, up_ni (by omega), dj 3 (by omega), cj 3 (by omega) (by omega), j1 3 (by omega) (by omega)]
    rcases hx with ⟨x1, x2, x3, x4⟩ | ⟨x1, ⟨x2, x3, x4, x5, x6⟩, _⟩
    · rw [x2]; exact x4
    · exact x5
  obtain ⟨g5, e5, h28, hf, hj, h3⟩ : ∃ g5, (if wr (g4 27 11) = 0 then lt (up g4 27 3 (g4 27 3 + 1)) (fun h23 => some h23) else some g4) = some g5 ∧ g5 28 = g4 28 ∧ (∀ k, k ≠ 27 → g5 k = g4 k) ∧ (∀ j, j ≠ 3 → g5 27 j = g4 27 j) ∧ g5 27 3 = (if B = 0 then z.2.2.2.1 + 1 else z.2.2.2.1) := by
    rw [t11', t3, w32 (show -1000000 ≤ B ∧ B ≤ 1000000 by omega)]
    by_cases y : B = 0
    · exact ⟨_, by rw [if_pos y, lt_eq], up_nk (by omega), fun k hk => up_nk hk, fun j hj => up_ni hj, by rw [if_pos y, up_eq]⟩
    · exact ⟨g4, by rw [if_neg y], rfl, fun _ _ => rfl, fun _ _ => rfl, by rw [if_neg y]; exact t3⟩
  have fin : ∀ k, k ≠ 27 → k ≠ 28 → g5 k = m k := fun k a b => by rw [hf k a, eg4, up_nk a, df k a]; exact cf k a b
  refine ⟨g5, ?_, ⟨?_, ?_, ?_⟩, ⟨?_, ?_, ?_, ?_, ?_⟩, fin⟩
  · unfold od_weighRow
    rw [o8, e1, bd_some, e2, bd_some, e3, bd_some, lt_eq, ef, ← eg4, e5, bd_some]
  · rw [hj 8 (by omega), eg4, up_ni (by omega), dj 8 (by omega), cj 8 (by omega) (by omega)]; exact g8
  · rw [hj 9 (by omega), eg4, up_ni (by omega), dj 9 (by omega), cj 9 (by omega) (by omega), j1 9 (by omega) (by omega)]; exact o9
  · intro p w a1 a2 a3 a4
    rw [fin 29 (by omega) (by omega), fin 30 (by omega) (by omega)]; exact oT p w a1 a2 a3 a4
  · rw [hj 0 (by omega), eg4, up_ni (by omega), dj 0 (by omega), c0, eW, eN]; rfl
  · rw [hj 1 (by omega), eg4, up_ni (by omega), d1, eW, eV, eN]; rfl
  · rw [hj 2 (by omega), eg4, up_eq, eF, eB]; rfl
  · rw [h3, eB]; rfl
  · intro x u v
    rw [h28, eg4, up_nk (by omega), d28, c28 x u v, eN]
    show _ = (if z.1 < wsR S (rwL l) (sP S) then rwL l else z.2.2.2.2) x
    split <;> rfl
