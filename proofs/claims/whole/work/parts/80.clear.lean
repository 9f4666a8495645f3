/-! Layer 2: who must go that no plot is bare -/
def fcN (c : Int → Bool) (R : Int → Int) : Nat → Int
  | 0 => 0
  | n + 1 => if c (R (n : Int)) = true then fcN c R n else fcN c R n + 1
def frN (c : Int → Bool) (R : Int → Int) : Nat → Int → Int
  | 0 => fun _ => 0
  | n + 1 => if c (R (n : Int)) = true then frN c R n else fun x => if x = fcN c R n then R (n : Int) else frN c R n x
def fcI (c : Int → Bool) (R : Int → Int) (i : Int) : Int := fcN c R i.toNat
def frI (c : Int → Bool) (R : Int → Int) (i : Int) : Int → Int := frN c R i.toNat
theorem fcI_succ (c : Int → Bool) (R : Int → Int) {i : Int} (h : 0 ≤ i) : fcI c R (i + 1) = if c (R i) = true then fcI c R i else fcI c R i + 1 := by
  unfold fcI
  have e : (i + 1).toNat = i.toNat + 1 := by omega
  have e2 : ((i.toNat : Nat) : Int) = i := by omega
  rw [e, fcN, e2]
theorem frI_succ (c : Int → Bool) (R : Int → Int) {i : Int} (h : 0 ≤ i) : frI c R (i + 1) = if c (R i) = true then frI c R i else fun x => if x = fcI c R i then R i else frI c R i x := by
  unfold frI fcI
  have e : (i + 1).toNat = i.toNat + 1 := by omega
  have e2 : ((i.toNat : Nat) : Int) = i := by omega
  rw [e, frN, e2]
theorem fcI_in (c : Int → Bool) (R : Int → Int) {n : Int} (hn : 0 ≤ n) : 0 ≤ fcI c R n ∧ fcI c R n ≤ n :=
  ind_to (P := fun i => 0 ≤ fcI c R i ∧ fcI c R i ≤ i) (n := n) (by show 0 ≤ (0 : Int) ∧ (0 : Int) ≤ 0; omega) (fun i a b d => by
    rw [fcI_succ c R a]; split <;> omega) n hn (by omega)
theorem frI_mem (c : Int → Bool) (R : Int → Int) {n : Int} (hn : 0 ≤ n) : ∀ x, 0 ≤ x → x < fcI c R n → ∃ y, 0 ≤ y ∧ y < n ∧ frI c R n x = R y :=
  ind_to (P := fun i => ∀ x, 0 ≤ x → x < fcI c R i → ∃ y, 0 ≤ y ∧ y < i ∧ frI c R i x = R y) (n := n) (fun x a b => by
    have b' : x < 0 := b
    omega) (fun i a b d => by
    intro x h1 h2
    rw [fcI_succ c R a] at h2
    rw [frI_succ c R a]
    by_cases z : c (R i) = true
    · rw [if_pos z] at h2 ⊢
      obtain ⟨y, y1, y2, y3⟩ := d x h1 h2
      exact ⟨y, y1, by omega, y3⟩
    · rw [if_neg z] at h2 ⊢
      by_cases w : x = fcI c R i
      · exact ⟨i, a, by omega, by rw [if_pos w]⟩
      · obtain ⟨y, y1, y2, y3⟩ := d x h1 (by omega)
        exact ⟨y, y1, by omega, by rw [if_neg w]; exact y3⟩) n hn (by omega)
theorem tb_hold (h : Hp) {v : Int} (hv : 0 ≤ v ∧ v < 64) {k : Int} (hk : 0 ≤ k ∧ k < 6) : sf_holds h v k = some (bt (tb v k) 1) := by
  have := c_holds h (tb v) hk
  rw [bs_tb hv] at this
  exact this
theorem tb_isB (h : Hp) {v : Int} (hv : 0 ≤ v ∧ v < 64) {k : Int} (hk : 0 ≤ k ∧ k < 6) : md_isBit h v k = some (bt (tb v k) 1) := by
  have := m_isBit h (tb v) hk
  rw [bs_tb hv] at this
  exact this
theorem c_flt {S : Sn} (hW : WF S) (hF : Full S) {m : Hp} (o8 : m 27 8 = sP S) (oR : ∀ x, 0 ≤ x → x < sP S → m (63 + 2) x = sR S x) {f v : Int} (hv : 0 ≤ v ∧ v < 64) : ∃ g, iter FU (od_leastToGo_b2 63 (f, v, m)) (0, 0, m) = some (fcI (tb v) (sR S) (sP S), g) ∧ (∀ a, a ≠ 31 → g a = m a) ∧ ∀ x, 0 ≤ x → x < fcI (tb v) (sR S) (sP S) → g 31 x = frI (tb v) (sR S) (sP S) x := by
  have hP := hW.2.2.1
  have hR := hW.2.2.2.2.2
  obtain ⟨r, e, r1, r2, r3⟩ := lp (body := od_leastToGo_b2 63 (f, v, m)) (s0 := (0, 0, m)) (Q := fun r => r.1 = fcI (tb v) (sR S) (sP S) ∧ (∀ a, a ≠ 31 → r.2 a = m a) ∧ ∀ x, 0 ≤ x → x < fcI (tb v) (sR S) (sP S) → r.2 31 x = frI (tb v) (sR S) (sP S) x) (fun i s => s.1 = fcI (tb v) (sR S) i ∧ s.2.1 = i ∧ (∀ a, a ≠ 31 → s.2.2 a = m a) ∧ ∀ x, 0 ≤ x → x < fcI (tb v) (sR S) i → s.2.2 31 x = frI (tb v) (sR S) i x) (sP S) hP.1 (by omega) ⟨rfl, rfl, fun _ _ => rfl, fun x a b => by
      have b' : x < 0 := b
      omega⟩ (fun i s a b hi => by
    obtain ⟨n, c, g⟩ := s
    obtain ⟨q1, q2, q3, q4⟩ := hi
    dsimp only at q1 q2 q3 q4
    subst q2
    have ni := fcI_in (tb v) (sR S) a
    rw [← q1] at ni
    have rc := hR c a (by rw [hF.1]; exact b)
    have g8 : g 27 8 = sP S := by rw [q3 27 (by omega)]; exact o8
    have gR : g 65 c = sR S c := by rw [q3 65 (by omega)]; exact oR c a b
    have eb : od_leastToGo_b2 63 (f, v, m) (n, c, g) = Option.bind (if wr (bt (tb v (sR S c)) 1) = 0 then some (n + 1, up g 31 n (sR S c)) else some (n, g)) (fun s11 : Int × Hp => some (.inl (s11.1, c + 1, s11.2))) := by
      simp only [od_leastToGo_b2, g8]
      rw [w32 (show -1000000 ≤ c ∧ c ≤ 1000000 by omega), w32 (show -1000000 ≤ sP S ∧ sP S ≤ 1000000 by omega), if_pos b, chk_t (by omega), gR, tb_hold g hv (by omega), bd_some, w32 (show -1000000 ≤ n ∧ n ≤ 1000000 by omega), chk_t (by omega), chk_t (by omega), lt_eq]
    have fs := fcI_succ (tb v) (sR S) a
    have gs := frI_succ (tb v) (sR S) a
    rw [eb, fs, gs]
    by_cases z : tb v (sR S c) = true
    · rw [z, if_neg (by decide), bd_some, if_pos rfl, if_pos rfl]
      exact ⟨(n, c + 1, g), rfl, q1, rfl, q3, q4⟩
    · have z' : tb v (sR S c) = false := by simpa using z
      rw [z', if_pos (by decide), bd_some, if_neg (by decide), if_neg (by decide)]
      refine ⟨(n + 1, c + 1, up g 31 n (sR S c)), rfl, by dsimp only; rw [q1], rfl, fun a' h1 => by dsimp only; rw [up_nk h1]; exact q3 a' h1, fun x h1 h2 => ?_⟩
      dsimp only
      by_cases w : x = n
      · rw [w, up_eq, if_pos q1]
      · rw [up_ni w, if_neg (by rw [← q1]; exact w)]
        exact q4 x h1 (by omega)) (fun s hi => by
    obtain ⟨n, c, g⟩ := s
    obtain ⟨q1, q2, q3, q4⟩ := hi
    dsimp only at q1 q2 q3 q4
    subst q2
    have g8 : g 27 8 = sP S := by rw [q3 27 (by omega)]; exact o8
    refine ⟨(n, g), ?_, q1, q3, q4⟩
    simp only [od_leastToGo_b2, g8]
    rw [if_neg (Int.lt_irrefl _)])
  obtain ⟨n, g⟩ := r
  dsimp only at r1 r2 r3
  exact ⟨g, by rw [e, r1], r2, r3⟩
def baG (S : Sn) (v : Int) : Int := bsR S (frI (tb v) (sR S) (sP S)) (fcI (tb v) (sR S) (sP S))
def clN (S : Sn) (n0 : Int) : Nat → Int
  | 0 => n0
  | n + 1 => if baG S (n : Int) = 0 ∧ ct (tb (n : Int)) < ct (tb (clN S n0 n)) then (n : Int) else clN S n0 n
def clI (S : Sn) (n0 i : Int) : Int := clN S n0 i.toNat
theorem clI_succ (S : Sn) (n0 : Int) {i : Int} (h : 0 ≤ i) : clI S n0 (i + 1) = if baG S i = 0 ∧ ct (tb i) < ct (tb (clI S n0 i)) then i else clI S n0 i := by
  unfold clI
  have e : (i + 1).toNat = i.toNat + 1 := by omega
  have e2 : ((i.toNat : Nat) : Int) = i := by omega
  rw [e, clN, e2]
theorem clI_in (S : Sn) {n0 : Int} (h0 : 0 ≤ n0 ∧ n0 < 64) {n : Int} (hn : 0 ≤ n ∧ n ≤ 64) : 0 ≤ clI S n0 n ∧ clI S n0 n < 64 :=
  ind_to (P := fun i => 0 ≤ clI S n0 i ∧ clI S n0 i < 64) (n := n) h0 (fun i a b d => by
    rw [clI_succ S n0 a]; split <;> omega) n hn.1 (by omega)
theorem c_leastO {S : Sn} (hW : WF S) (hF : Full S) {F : Hp} (hO : OT F S) (oR : ∀ x, 0 ≤ x → x < sP S → F (63 + 2) x = sR S x) : ∃ g, od_leastToGo F 63 = some (clI S (ishl 1 (sP S) - 1) (ishl 1 (sP S)), g) ∧ (∀ a, a ≠ 27 → a ≠ 31 → g a = F a) ∧ ∀ j, j ≠ 10 → j ≠ 11 → g 27 j = F 27 j := by
  have hP := hW.2.2.1
  have hR := hW.2.2.2.2.2
  have pw := pow_in6 (sP S) hP.1 (by omega)
  have wpw : wr (ishl 1 (sP S)) = ishl 1 (sP S) := wr_ishl _ _
  obtain ⟨r, e, r1, r2, r3⟩ := lp (body := od_leastToGo_b1 63) (s0 := (ishl 1 (sP S) - 1, 0, F)) (Q := fun r => r.1 = clI S (ishl 1 (sP S) - 1) (ishl 1 (sP S)) ∧ (∀ a, a ≠ 27 → a ≠ 31 → r.2 a = F a) ∧ ∀ j, j ≠ 10 → j ≠ 11 → r.2 27 j = F 27 j) (fun i s => s.1 = clI S (ishl 1 (sP S) - 1) i ∧ s.2.1 = i ∧ (∀ a, a ≠ 27 → a ≠ 31 → s.2.2 a = F a) ∧ ∀ j, j ≠ 10 → j ≠ 11 → s.2.2 27 j = F 27 j) (ishl 1 (sP S)) (by omega) (by omega) ⟨rfl, rfl, fun _ _ _ => rfl, fun _ _ _ => rfl⟩ (fun i s a b hi => by
    obtain ⟨f, c, m⟩ := s
    obtain ⟨q1, q2, q3, q4⟩ := hi
    dsimp only at q1 q2 q3 q4
    subst q2
    have fi := clI_in S (n0 := ishl 1 (sP S) - 1) (by omega) (n := c) (by omega)
    rw [← q1] at fi
    have o8 : m 27 8 = sP S := by rw [q4 8 (by omega) (by omega)]; exact hO.1
    obtain ⟨g1, e1, x1, x2⟩ := c_flt hW hF (m := m) o8 (fun x a b => by rw [q3 (63 + 2) (by omega) (by omega)]; exact oR x a b) (f := f) (v := c) (by omega)
    have ni := fcI_in (tb c) (sR S) hP.1
    have oT : OT g1 S := by
      obtain ⟨_, o9, ot⟩ := hO
      refine ⟨by rw [x1 27 (by omega)]; exact o8, by rw [x1 27 (by omega), q4 9 (by omega) (by omega)]; exact o9, ?_⟩
      rw [x1 29 (by omega), x1 30 (by omega), q3 29 (by omega) (by omega), q3 30 (by omega) (by omega)]
      exact ot
    obtain ⟨g2, e2, y1, y2, y3, y4⟩ := c_sumUp hW oT (R := frI (tb c) (sR S) (sP S)) (n := fcI (tb c) (sR S) (sP S)) ni (fun x h1 h2 => by
      obtain ⟨y, v1, v2, v3⟩ := frI_mem (tb c) (sR S) hP.1 x h1 h2
      have rc := hR y v1 (by rw [hF.1]; exact v2)
      exact ⟨x2 x h1 h2, by rw [v3]; exact rc.1, by rw [v3]; exact rc.2.1⟩)
    have bi : 0 ≤ baG S c ∧ baG S c ≤ 6 := bw_in2 S (frI (tb c) (sR S) (sP S)) (n := fcI (tb c) (sR S) (sP S)) (sL S) (i := fcI (tb c) (sR S) (sP S)) (by omega)
    have y4' : g2 27 11 = baG S c := y4
    have cc := ct_in (tb c)
    have cf := ct_in (tb f)
    have eb : od_leastToGo_b1 63 (f, c, m) = Option.bind (if baG S c = 0 then (if ct (tb c) < ct (tb f) then some c else some f) else some f) (fun s18 : Int => some (.inl (s18, c + 1, g2))) := by
      simp only [od_leastToGo_b1, o8]
      rw [wpw, w32 (show -1000000 ≤ c ∧ c ≤ 1000000 by omega), if_pos b, e1, bd_some]
      dsimp only
      rw [e2, bd_some, y4', w32 (show -1000000 ≤ baG S c ∧ baG S c ≤ 1000000 by omega), tb_cnt g2 (by omega), bd_some, tb_cnt g2 fi, bd_some, w32 (show -1000000 ≤ ct (tb c) ∧ ct (tb c) ≤ 1000000 by omega), w32 (show -1000000 ≤ ct (tb f) ∧ ct (tb f) ≤ 1000000 by omega)]
    have gf : ∀ a, a ≠ 27 → a ≠ 31 → g2 a = F a := fun a h1 h2 => by rw [y1 a h1, x1 a h2]; exact q3 a h1 h2
    have gj : ∀ j, j ≠ 10 → j ≠ 11 → g2 27 j = F 27 j := fun j h1 h2 => by rw [y2 j h1 h2, x1 27 (by omega)]; exact q4 j h1 h2
    have cs := clI_succ S (ishl 1 (sP S) - 1) a
    rw [← q1] at cs
    rw [eb, cs]
    by_cases z1 : baG S c = 0
    · rw [if_pos z1]
      by_cases z2 : ct (tb c) < ct (tb f)
      · rw [if_pos z2, bd_some, if_pos ⟨z1, z2⟩]
        exact ⟨(c, c + 1, g2), rfl, rfl, rfl, gf, gj⟩
      · rw [if_neg z2, bd_some, if_neg (fun y => z2 y.2)]
        exact ⟨(f, c + 1, g2), rfl, rfl, rfl, gf, gj⟩
    · rw [if_neg z1, bd_some, if_neg (fun y => z1 y.1)]
      exact ⟨(f, c + 1, g2), rfl, rfl, rfl, gf, gj⟩) (fun s hi => by
    obtain ⟨f, c, m⟩ := s
    obtain ⟨q1, q2, q3, q4⟩ := hi
    dsimp only at q1 q2 q3 q4
    subst q2
    have o8 : m 27 8 = sP S := by rw [q4 8 (by omega) (by omega)]; exact hO.1
    refine ⟨(f, m), ?_, q1, q3, q4⟩
    simp only [od_leastToGo_b1, o8]
    rw [wpw, if_neg (Int.lt_irrefl _)])
  obtain ⟨n, g⟩ := r
  dsimp only at r1 r2 r3
  refine ⟨g, ?_, r2, r3⟩
  unfold od_leastToGo
  rw [hO.1, e, bd_some, r1]
theorem INV_sum {F G : Hp} (hI : INV F) (hf : ∀ a, a ≠ 27 → a ≠ 31 → G a = F a) (hj : ∀ j, j ≠ 10 → j ≠ 11 → G 27 j = F 27 j) : INV G := by
  obtain ⟨i1, i2, i3, i4, i5⟩ := hI
  have eS : ∀ s, Sea G s = Sea F s := Sea_fr (fun a ha => hf a (by omega) (by omega))
  refine ⟨Bas_fr i1 (fun a ha => hf a (by unfold bsc at ha; omega) (by unfold bsc at ha; omega)) (by rw [hf 167 (by omega) (by omega)]) (by rw [hf 167 (by omega) (by omega)]) (by rw [hf 167 (by omega) (by omega)]), by rw [hf 0 (by omega) (by omega)]; exact i2, by rw [hf 0 (by omega) (by omega)]; exact i3, ?_, ?_⟩
  · intro z s hs
    rw [hf 0 (by omega) (by omega)] at z
    rw [eS]
    exact CA_fr (i4 z s hs) (fun a _ _ => hf a (by omega) (by omega))
  · intro z
    rw [hf 0 (by omega) (by omega)] at z
    rw [eS]
    have := i5 z
    unfold OA OT at this ⊢
    rw [hj 8 (by omega) (by omega), hj 9 (by omega) (by omega), hj 0 (by omega) (by omega), hj 1 (by omega) (by omega), hj 2 (by omega) (by omega), hj 3 (by omega) (by omega), hf 28 (by omega) (by omega), hf 29 (by omega) (by omega), hf 30 (by omega) (by omega)]
    exact this
/-! the model lets them go -/
def goS (S : Sn) (c : Int → Bool) (Q : Int → Int) : Sn := (sK S, sL S, sP S, fcI c (sR S) (sP S), sT S, frI c (sR S) (sP S), Q, sH S)
theorem br0 {S : Sn} (hW : WF S) {c : Int → Bool} {Q : Int → Int} (hQ : ∀ x, 0 ≤ x → x < fcI c (sR S) (sP S) → 0 ≤ frI c (sR S) (sP S) x ∧ frI c (sR S) (sP S) x < sP S ∧ Q (frI c (sR S) (sP S) x) = x) : bs (brS (goS S c Q) (fcI c (sR S) (sP S))) = 0 ↔ bsR S (frI c (sR S) (sP S)) (fcI c (sR S) (sP S)) = 0 := by
  have hP := hW.2.2.1
  have ni := fcI_in c (sR S) hP.1
  rw [bs_eq0]
  obtain ⟨N, eN⟩ : ∃ N, N = fcI c (sR S) (sP S) := ⟨_, rfl⟩
  obtain ⟨R, eR⟩ : ∃ R, R = frI c (sR S) (sP S) := ⟨_, rfl⟩
  have eG : ∀ p, grS (goS S c Q) p = guS S p (dcR R N (sL S) (Q p)) := fun p => by rw [eR, eN]; rfl
  have eB : ∀ p, brS (goS S c Q) N p = decide (0 ≤ Q p ∧ Q p < N ∧ R (Q p) = p ∧ grS (goS S c Q) p = -1) := fun p => by rw [eR]; rfl
  rw [← eN, ← eR] at hQ
  rw [← eN] at ni
  rw [← eN, ← eR]
  constructor
  · intro hz
    refine sm_null ni.1 (fun x a b => ?_)
    have q := hQ x a b
    have z := hz (R x) q.1 (by omega)
    rw [eB, decide_eq_false_iff_not] at z
    show (if guS S (R x) (dcR R N (sL S) x) = -1 then (1 : Int) else 0) = 0
    rw [if_neg]
    intro y
    apply z
    rw [eG, q.2.2]
    exact ⟨a, b, rfl, y⟩
  · intro hz p a b
    rw [eB, decide_eq_false_iff_not]
    rintro ⟨z1, z2, z3, z4⟩
    have ge := sm_ge1 (n := N) ni.1 (f := fun x => baS S (R x) (dcR R N (sL S) x)) (fun k _ _ => by
      show 0 ≤ (if guS S (R k) (dcR R N (sL S) k) = -1 then (1 : Int) else 0)
      split <;> omega) (j := Q p) ⟨z1, z2⟩
    have hz' : sm N (fun x => baS S (R x) (dcR R N (sL S) x)) = 0 := hz
    rw [hz'] at ge
    have : baS S (R (Q p)) (dcR R N (sL S) (Q p)) = 1 := by
      show (if guS S (R (Q p)) (dcR R N (sL S) (Q p)) = -1 then (1 : Int) else 0) = 1
      rw [z3, if_pos]
      rw [← eG]; exact z4
    have ge' : baS S (R (Q p)) (dcR R N (sL S) (Q p)) ≤ 0 := ge
    omega
theorem m_flt {S : Sn} (hW : WF S) (hF : Full S) {G : Hp} (kB : MB G S) {f v : Int} {m : Hp} (hv : 0 ≤ v ∧ v < 64) : ∃ g, iter FU (md_clear_b2 (f, v, m)) (0, up G 167 26 0) = some g ∧ (∀ a, a ≠ 167 → a ≠ 179 → a ≠ 180 → g a = G a) ∧ (∀ j, j ≠ 26 → g 167 j = G 167 j) ∧ g 167 26 = fcI (tb v) (sR S) (sP S) ∧ ∀ x, 0 ≤ x → x < fcI (tb v) (sR S) (sP S) → g 179 x = frI (tb v) (sR S) (sP S) x ∧ g 180 (frI (tb v) (sR S) (sP S) x) = x := by
  have hP := hW.2.2.1
  have hR := hW.2.2.2.2.2
  obtain ⟨d0, d1, d2, d3, dT, dR⟩ := kB
  refine lp (body := md_clear_b2 (f, v, m)) (s0 := (0, up G 167 26 0)) (fun i s => s.1 = i ∧ (∀ a, a ≠ 167 → a ≠ 179 → a ≠ 180 → s.2 a = G a) ∧ (∀ j, j ≠ 26 → s.2 167 j = G 167 j) ∧ s.2 167 26 = fcI (tb v) (sR S) i ∧ (∀ x, i ≤ x → x < sP S → s.2 179 x = sR S x) ∧ ∀ x, 0 ≤ x → x < fcI (tb v) (sR S) i → s.2 179 x = frI (tb v) (sR S) i x ∧ s.2 180 (frI (tb v) (sR S) i x) = x) (sP S) hP.1 (by omega) ⟨rfl, fun a h1 _ _ => up_nk h1, fun j hj => up_ni hj, show up G 167 26 0 167 26 = 0 from up_eq .., fun x a b => by dsimp only; rw [up_nk (by omega)]; exact (dR x a b).1, fun x a b => by
      have b' : x < 0 := b
      omega⟩ (fun i s a b hi => ?_) (fun s hi => ?_)
  · obtain ⟨c, g⟩ := s
    obtain ⟨q1, q2, q3, q4, q5, q6⟩ := hi
    dsimp only at q1 q2 q3 q4 q5 q6
    subst q1
    obtain ⟨n, en⟩ : ∃ n, n = fcI (tb v) (sR S) c := ⟨_, rfl⟩
    have ni := fcI_in (tb v) (sR S) a
    have fm := frI_mem (tb v) (sR S) a
    have fs := fcI_succ (tb v) (sR S) a
    have gs := frI_succ (tb v) (sR S) a
    rw [← en] at ni q4 q6 fm fs gs
    have rc := hR c a (by rw [hF.1]; exact b)
    have g4 : g 174 4 = sP S := by rw [q2 174 (by omega) (by omega) (by omega)]; exact d2
    have gR : g 179 c = sR S c := q5 c (by omega) b
    have eb : md_clear_b2 (f, v, m) (c, g) = Option.bind (if wr (bt (tb v (sR S c)) 1) = 0 then some (up (up (up g 179 n (sR S c)) 180 (sR S c) n) 167 26 (n + 1)) else some g) (fun s24 : Hp => some (.inl (c + 1, s24))) := by
      unfold md_clear_b2 md_people
      dsimp only
      rw [bd_some, g4, w32 (show -1000000 ≤ c ∧ c ≤ 1000000 by omega), w32 (show -1000000 ≤ sP S ∧ sP S ≤ 1000000 by omega), if_pos b, chk_t (by omega)]
      simp only [gR, q4]
      rw [tb_isB g hv (by omega), bd_some, w32 (show -1000000 ≤ n ∧ n ≤ 1000000 by omega), chk_t (by omega), lt_eq, w32 (show -1000000 ≤ sR S c ∧ sR S c ≤ 1000000 by omega), chk_t (by omega), lt_eq, up_nk (show 167 ≠ 179 by omega), q4, up_nk (show 167 ≠ 180 by omega), up_nk (show 167 ≠ 179 by omega), q4, lt_eq]
    rw [eb, fs, gs]
    by_cases z : tb v (sR S c) = true
    · rw [z, if_neg (by decide), bd_some, if_pos rfl, if_pos rfl]
      exact ⟨(c + 1, g), rfl, rfl, q2, q3, q4, fun x h1 h2 => q5 x (by omega) h2, q6⟩
    · have z' : tb v (sR S c) = false := by simpa using z
      rw [z', if_pos (by decide), bd_some, if_neg (by decide), if_neg (by decide)]
      refine ⟨(c + 1, up (up (up g 179 n (sR S c)) 180 (sR S c) n) 167 26 (n + 1)), rfl, rfl, fun a' h1 h2 h3 => ?_, fun j hj => ?_, ?_, fun x h1 h2 => ?_, fun x h1 h2 => ?_⟩
      · dsimp only; rw [up_nk h1, up_nk h3, up_nk h2]; exact q2 a' h1 h2 h3
      · dsimp only; rw [up_ni hj, up_nk (by omega), up_nk (by omega)]; exact q3 j hj
      · dsimp only; rw [up_eq]
      · dsimp only; rw [up_nk (by omega), up_nk (by omega), up_ni (by omega)]; exact q5 x (by omega) h2
      · dsimp only
        rw [up_nk (show 179 ≠ 167 by omega), up_nk (show 179 ≠ 180 by omega), up_nk (show 180 ≠ 167 by omega)]
        by_cases w : x = n
        · rw [if_pos w, w, up_eq, up_eq]; exact ⟨rfl, rfl⟩
        · rw [if_neg w, up_ni w]
          have h2' : x < n := by omega
          obtain ⟨y, v1, v2, v3⟩ := fm x h1 h2'
          have ry := hR y v1 (by rw [hF.1]; omega)
          have ne : frI (tb v) (sR S) c x ≠ sR S c := fun q => by
            rw [v3] at q
            have := ry.2.2
            rw [q, rc.2.2] at this
            omega
          rw [up_ni ne, up_nk (by omega)]
          exact q6 x h1 h2'
  · obtain ⟨c, g⟩ := s
    obtain ⟨q1, q2, q3, q4, q5, q6⟩ := hi
    dsimp only at q1 q2 q3 q4 q5 q6
    subst q1
    have g4 : g 174 4 = sP S := by rw [q2 174 (by omega) (by omega) (by omega)]; exact d2
    refine ⟨g, ?_, q2, q3, q4, q6⟩
    unfold md_clear_b2 md_people
    dsimp only
    rw [bd_some, g4, if_neg (Int.lt_irrefl _)]
theorem m_go {h t : Hp} (hI : INV h) (hM : Mf h t) {f v : Int} {m : Hp} (hv : 0 ≤ v ∧ v < 64) : ∃ G g r b, md_begins0 t = some G ∧ iter FU (md_clear_b2 (f, v, m)) (0, up G 167 26 0) = some g ∧ md_grow g = some r ∧ md_bareOf r = some (bs b) ∧ (bs b = 0 ↔ baG (Sea h 0) v = 0) ∧ Mf h r := by
  obtain ⟨sW, sF, eK, eL, eP, eN⟩ := Sea_ok hI 0
  have sW' := sW
  obtain ⟨hK, hL, hP, hN, hT, hR⟩ := sW'
  obtain ⟨G, e1, kB, mG⟩ := Mf_beg hM
  obtain ⟨g, e2, g1, g2, g3, g4⟩ := m_flt sW sF kB (f := f) (m := m) hv
  have ni := fcI_in (tb v) (sR (Sea h 0)) hP.1
  have kP := MB_MP sW sF kB
  obtain ⟨p0, p1, p2, p3, pT, pR, pH⟩ := kP
  have hQ : ∀ x, 0 ≤ x → x < fcI (tb v) (sR (Sea h 0)) (sP (Sea h 0)) → 0 ≤ frI (tb v) (sR (Sea h 0)) (sP (Sea h 0)) x ∧ frI (tb v) (sR (Sea h 0)) (sP (Sea h 0)) x < sP (Sea h 0) ∧ g 180 (frI (tb v) (sR (Sea h 0)) (sP (Sea h 0)) x) = x := fun x a b => by
    obtain ⟨y, v1, v2, v3⟩ := frI_mem (tb v) (sR (Sea h 0)) hP.1 x a b
    have ry := hR y v1 (by rw [sF.1]; omega)
    exact ⟨by rw [v3]; exact ry.1, by rw [v3]; exact ry.2.1, (g4 x a b).2⟩
  have W' : WF (goS (Sea h 0) (tb v) (g 180)) := ⟨hK, hL, hP, ni, hT, hQ⟩
  have P' : MP g (goS (Sea h 0) (tb v) (g 180)) := by
    unfold MP
    rw [g1 174 (by omega) (by omega) (by omega), g1 178 (by omega) (by omega) (by omega), g1 181 (by omega) (by omega) (by omega), g1 182 (by omega) (by omega) (by omega)]
    exact ⟨p0, p1, p2, g3, pT, g4, pH⟩
  obtain ⟨r, e3, kA, r1⟩ := m_grow W' P'
  have e4 := m_bare W' kA
  refine ⟨G, g, r, _, e1, e2, e3, e4, br0 sW hQ, ?_⟩
  refine Mf_fx mG ⟨fun a ha => ?_, ?_, ?_, ?_⟩
  · unfold scr at ha
    rw [r1 a (by omega), g1 a (by omega) (by omega) (by omega)]
  · rw [r1 167 (by omega), g2 6 (by omega)]
  · rw [r1 167 (by omega), g2 14 (by omega)]
  · rw [r1 167 (by omega), g2 15 (by omega)]
theorem m_clr {h t : Hp} (hI : INV h) (hM : Mf h t) : ∃ u, iter FU md_clear_b1 (ishl 1 (h 9 5) - 1, 0, t) = some (clI (Sea h 0) (ishl 1 (h 9 5) - 1) (ishl 1 (h 9 5)), u) ∧ Mf h u := by
  have lP := (INV_l hI).2.2.2.2.2.1
  have pw := pow_in6 (h 9 5) lP.1 (by omega)
  have wpw : wr (ishl 1 (h 9 5)) = ishl 1 (h 9 5) := wr_ishl _ _
  obtain ⟨r, e, r1, r2⟩ := lp (body := md_clear_b1) (s0 := (ishl 1 (h 9 5) - 1, 0, t)) (Q := fun r => r.1 = clI (Sea h 0) (ishl 1 (h 9 5) - 1) (ishl 1 (h 9 5)) ∧ Mf h r.2) (fun i s => s.1 = clI (Sea h 0) (ishl 1 (h 9 5) - 1) i ∧ s.2.1 = i ∧ Mf h s.2.2) (ishl 1 (h 9 5)) (by omega) (by omega) ⟨rfl, rfl, hM⟩ (fun i s a b hi => by
    obtain ⟨f, c, m⟩ := s
    obtain ⟨q1, q2, q3⟩ := hi
    dsimp only at q1 q2 q3
    subst q2
    have fi := clI_in (Sea h 0) (n0 := ishl 1 (h 9 5) - 1) (by omega) (n := c) (by omega)
    rw [← q1] at fi
    obtain ⟨G, g, r, bb, e1, e2, e3, e4, e5, mr⟩ := m_go hI q3 (f := f) (v := c) (m := m) (by omega)
    have bi := bs_in bb
    have c4 : m 174 4 = h 9 5 := (Mf_n q3).2.2.2.2.1
    have cc := ct_in (tb c)
    have cf := ct_in (tb f)
    have eb : md_clear_b1 (f, c, m) = Option.bind (if ct (tb f) ≤ ct (tb c) then some (f, m) else if bs bb = 0 then some (c, r) else some (f, r)) (fun s29 : Int × Hp => some (.inl (s29.1, c + 1, s29.2))) := by
      simp only [md_clear_b1, md_people, bd_some, c4]
      rw [wpw, w32 (show -1000000 ≤ c ∧ c ≤ 1000000 by omega), if_pos b, tb_siz m (by omega), bd_some, tb_siz m fi, bd_some, e1, bd_some, lt_eq, e2, bd_some, e3, bd_some, e4, bd_some, wr_bs, w32 (show -1000000 ≤ ct (tb c) ∧ ct (tb c) ≤ 1000000 by omega), w32 (show -1000000 ≤ ct (tb f) ∧ ct (tb f) ≤ 1000000 by omega)]
    have cs := clI_succ (Sea h 0) (ishl 1 (h 9 5) - 1) a
    rw [← q1] at cs
    rw [eb, cs]
    by_cases z2 : ct (tb c) < ct (tb f)
    · rw [if_neg (by omega)]
      by_cases z1 : bs bb = 0
      · rw [if_pos z1, bd_some, if_pos ⟨e5.mp z1, z2⟩]
        exact ⟨(c, c + 1, r), rfl, rfl, rfl, mr⟩
      · rw [if_neg z1, bd_some, if_neg (fun y => z1 (e5.mpr y.1))]
        exact ⟨(f, c + 1, r), rfl, rfl, rfl, mr⟩
    · rw [if_pos (by omega), bd_some, if_neg (fun y => z2 y.2)]
      exact ⟨(f, c + 1, m), rfl, rfl, rfl, q3⟩) (fun s hi => by
    obtain ⟨f, c, m⟩ := s
    obtain ⟨q1, q2, q3⟩ := hi
    dsimp only at q1 q2 q3
    subst q2
    have c4 : m 174 4 = h 9 5 := (Mf_n q3).2.2.2.2.1
    refine ⟨(f, m), ?_, q1, q3⟩
    simp only [md_clear_b1, md_people, bd_some, c4]
    rw [wpw, if_neg (Int.lt_irrefl _)])
  obtain ⟨n, g⟩ := r
  dsimp only at r1 r2
  exact ⟨g, by rw [e, r1], r2⟩
theorem st_clear : St_clear INV := by
  intro h hI
  have n1 : ¬ wr 1 = 0 := by decide
  have n0 : wr 0 = 0 := rfl
  have tc := th_cond hI
  by_cases g : h 9 0 = 1
  · obtain ⟨sW, sF, eK, eL, eP, eN⟩ := Sea_ok hI 0
    obtain ⟨F, e1, hM, hO⟩ := c_ordN hI (Mf_rfl hI)
    obtain ⟨E, hE⟩ := s_at hM.1
    have e2 : sf_seasonAt F 0 = some (63, E) := (hE.2.2.1 0 (by omega) (by omega)).1
    have mE : Mf h E := ⟨hE.1, fun a x y => by rw [hE.2.2.2.2.1 a (by omega) (by omega)]; exact hM.2 a x y⟩
    have ca : CA E 63 (Sea F 0) := hE.2.2.2.1 0 (by omega)
    rw [Mf_Sea hM] at ca
    have oE : OA E (Sea h 0) := OA_fr (fun a x y => hE.2.2.2.2.1 a (by omega) (by omega)) hO
    obtain ⟨V, e3, v1, v2⟩ := c_leastO sW sF oE.1 ca.1.2.2.2.2.1
    have mV : Mf h V := ⟨INV_sum hE.1 v1 v2, fun a x y => by rw [v1 a (by omega) (by omega)]; exact mE.2 a x y⟩
    have m0 : Mf h (up V 167 0 0) := Mf_up mV (by omega) (by omega) (by omega)
    obtain ⟨u, e4, mu⟩ := m_clr hI m0
    rw [eP] at e3
    refine ⟨clI (Sea h 0) (ishl 1 (h 9 5) - 1) (ishl 1 (h 9 5)), V, clI (Sea h 0) (ishl 1 (h 9 5) - 1) (ishl 1 (h 9 5)), u, ?_, ?_, rfl, mu.1⟩
    · unfold sf_clear
      rw [if_neg (by rw [tc]; simp [g]), e1, bd_some]
      dsimp only
      rw [chk_t rfl, e2, bd_some]
      dsimp only
      rw [chk_t sh63, e3, bd_some, bd_some]
    · have c4 : (up V 167 0 0) 174 4 = h 9 5 := (Mf_n m0).2.2.2.2.1
      unfold md_clear md_people
      rw [lt_eq, Mf_isF hI m0, bd_some, bI_t g, if_neg n1, bd_some, c4, e4, bd_some]
  · have m0 : Mf h (up h 167 0 0) := Mf_self hI
    refine ⟨-2, h, -2, up h 167 0 0, ?_, ?_, rfl, m0.1⟩
    · unfold sf_clear; rw [if_pos (by rw [tc]; exact g), bd_some]
    · unfold md_clear
      rw [lt_eq, Mf_isF hI m0, bd_some, bI_f g, if_pos n0]
