/-! Layer 2: pairs: trades, treaties -/
def cnt (P : Int) (c : Int → Int → Bool) : Int := sm P (fun p => sm P (fun q => if p < q ∧ c p q = true then 1 else 0))
theorem pairs_lp {B1 : (Int × Int × Hp) → Option ((Int × Int × Hp) ⊕ (Int × Hp))} {B2 : (Int × Int × Hp) → (Int × Int × Hp) → Option ((Int × Int × Hp) ⊕ (Int × Hp))} {h : Hp} {P : Int} (hP : 0 ≤ P ∧ P ≤ 6) {c : Int → Int → Bool} (h2 : ∀ z v q m, 0 ≤ z.2.1 → z.2.1 < q → q < P → Mf h m → ∃ m', B2 z (v, q, m) = some (.inl ((if c z.2.1 q = true then v + 1 else v), q + 1, m')) ∧ Mf h m') (h2e : ∀ z v m, Mf h m → B2 z (v, P, m) = some (.inr (v, m))) (h1 : ∀ v p m, 0 ≤ p → p < P → Mf h m → B1 (v, p, m) = Option.bind (iter FU (B2 (v, p, m)) (v, p + 1, m)) (fun s13 => some (.inl (s13.1, p + 1, s13.2)))) (h1e : ∀ v m, Mf h m → B1 (v, P, m) = some (.inr (v, m))) {m0 : Hp} (hm : Mf h m0) : ∃ m', iter FU B1 (0, 0, m0) = some (cnt P c, m') ∧ Mf h m' := by
  obtain ⟨r, e, r1, r2⟩ := lp (body := B1) (s0 := (0, 0, m0)) (Q := fun r => r.1 = cnt P c ∧ Mf h r.2) (fun i s => s.1 = sm i (fun p => sm P (fun q => if p < q ∧ c p q = true then 1 else 0)) ∧ s.2.1 = i ∧ Mf h s.2.2) P hP.1 (by omega) ⟨rfl, rfl, hm⟩ (fun i s a b hi => by
    obtain ⟨v, p, m⟩ := s
    obtain ⟨q1, q2, q3⟩ := hi
    dsimp only at q1 q2 q3
    subst q2
    obtain ⟨r, e2, x1, x2⟩ := lp (body := B2 (v, p, m)) (s0 := (v, p + 1, m)) (Q := fun r => r.1 = v + sm P (fun q => if p < q ∧ c p q = true then 1 else 0) ∧ Mf h r.2) (fun i s => s.1 = v + sm (p + 1 + i) (fun q => if p < q ∧ c p q = true then 1 else 0) ∧ s.2.1 = p + 1 + i ∧ Mf h s.2.2) (P - (p + 1)) (by omega) (by omega) ⟨by
        have : sm (p + 1 + 0) (fun q => if p < q ∧ c p q = true then 1 else 0) = 0 := sm_null (by omega) (fun k x y => by rw [if_neg (by omega)])
        dsimp only
        rw [this, Int.add_zero], by dsimp only; omega, q3⟩ (fun i s a' b' hi => by
      obtain ⟨w, q, m'⟩ := s
      obtain ⟨y1, y2, y3⟩ := hi
      dsimp only at y1 y2 y3
      obtain ⟨m2, e3, y4⟩ := h2 (v, p, m) w q m' a (by dsimp only; omega) (by omega) y3
      refine ⟨_, e3, ?_, ?_, y4⟩
      · dsimp only
        rw [show p + 1 + (i + 1) = p + 1 + i + 1 by omega, sm_succ (by omega), ← y2, y1, y2]
        by_cases z : c p (p + 1 + i) = true
        · rw [if_pos z, if_pos (⟨by omega, z⟩ : p < p + 1 + i ∧ c p (p + 1 + i) = true)]; omega
        · rw [if_neg z, if_neg (fun y => z y.2)]; omega
      · dsimp only; omega) (fun s hi => by
      obtain ⟨w, q, m'⟩ := s
      obtain ⟨y1, y2, y3⟩ := hi
      dsimp only at y1 y2 y3
      have eq : q = P := by omega
      subst eq
      refine ⟨(w, m'), h2e _ _ _ y3, ?_, y3⟩
      dsimp only
      rw [y1, ← y2])
    obtain ⟨w, m'⟩ := r
    dsimp only at x1 x2
    refine ⟨(w, p + 1, m'), ?_, ?_, rfl, x2⟩
    · rw [h1 v p m a b q3, e2, bd_some]
    · dsimp only
      rw [sm_succ a, x1, q1]) (fun s hi => by
    obtain ⟨v, p, m⟩ := s
    obtain ⟨q1, q2, q3⟩ := hi
    dsimp only at q1 q2 q3
    subst q2
    exact ⟨(v, m), h1e _ _ q3, q1, q3⟩)
  obtain ⟨v, m'⟩ := r
  dsimp only at r1 r2
  exact ⟨m', by rw [e, r1], r2⟩
def tcS (S : Sn) (p q : Int) : Bool := decide (shS S p < shS (swS p q S) p ∧ shS S q < shS (swS p q S) q)
theorem c_isTr {h m : Hp} (hI : INV h) (hM : Mf h m) {p q : Int} (hp : 0 ≤ p ∧ p < h 9 5) (hq : 0 ≤ q ∧ q < h 9 5) : ∃ m', sf_isTrade m p q = some (bt (tcS (Sea h 0) p q) 1, m') ∧ Mf h m' := by
  obtain ⟨sW, sF, eK, eL, eP, eN⟩ := Sea_ok hI 0
  have lP := (INV_l hI).2.2.2.2.2.1.2
  obtain ⟨F, hR, hs⟩ := c_rdy hM
  have e0 : sf_seasonAt m 0 = some (63, F) := hs 0 (by omega) (by omega)
  obtain ⟨m', e1, k1, hR1⟩ := c_ifCh hI hR.1 (p := p) (q := q) hp hq
  have ca := rdy_c0 hR1
  have ok := swS_ok sW sF (p := p) (q := q) (by omega) (by omega)
  have x1 := c_share k1 (p := p) (show sP (Sea h 0) ≤ 6 by omega) (show 0 ≤ p ∧ p < sP (Sea h 0) by omega)
  have x2 := c_share k1 (p := q) (show sP (Sea h 0) ≤ 6 by omega) (show 0 ≤ q ∧ q < sP (Sea h 0) by omega)
  have x3 := c_share ca (p := p) (by omega) (by omega)
  have x4 := c_share ca (p := q) (by omega) (by omega)
  have r1 := shS_in ok.1 p
  have r2 := shS_in ok.1 q
  have r3 := shS_in sW p
  have r4 := shS_in sW q
  refine ⟨m', ?_, hR1.1⟩
  unfold sf_isTrade tcS
  rw [e0, bd_some]
  dsimp only
  rw [chk_t sh63, e1, bd_some]
  dsimp only
  rw [chk_t sh19, x1, bd_some, x3, bd_some, x2, bd_some, x4, bd_some, wr_id (show -2147483648 ≤ shS (swS p q (Sea h 0)) p ∧ shS (swS p q (Sea h 0)) p < 2147483648 by omega), wr_id (show -2147483648 ≤ shS (swS p q (Sea h 0)) q ∧ shS (swS p q (Sea h 0)) q < 2147483648 by omega), wr_id (show -2147483648 ≤ shS (Sea h 0) p ∧ shS (Sea h 0) p < 2147483648 by omega), wr_id (show -2147483648 ≤ shS (Sea h 0) q ∧ shS (Sea h 0) q < 2147483648 by omega)]
  by_cases z1 : shS (Sea h 0) p < shS (swS p q (Sea h 0)) p
  · rw [if_pos z1]
    by_cases z2 : shS (Sea h 0) q < shS (swS p q (Sea h 0)) q
    · rw [if_pos z2, bd_some, chk_t (by omega), decide_eq_true (⟨z1, z2⟩ : _ ∧ _)]; rfl
    · rw [if_neg z2, bd_some, chk_t (by omega), decide_eq_false (fun y => z2 y.2)]; rfl
  · rw [if_neg z1, bd_some, chk_t (by omega), decide_eq_false (fun y => z1 y.1)]; rfl
theorem st_trades_c {h m : Hp} (hI : INV h) (hM : Mf h m) : ∃ m', iter FU sf_trades_b1 (0, 0, m) = some (cnt (h 9 5) (tcS (Sea h 0)), m') ∧ Mf h m' := by
  have lP := (INV_l hI).2.2.2.2.2.1
  refine pairs_lp (B2 := sf_trades_b2) lP (fun z v q m a b c hm => ?_) (fun z v m hm => ?_) (fun v p m a b hm => ?_) (fun v m hm => ?_) hM
  · obtain ⟨m', e, hm'⟩ := c_isTr hI hm (p := z.2.1) (q := q) (by omega) (by omega)
    refine ⟨m', ?_, hm'⟩
    simp only [sf_trades_b2, Mf_9 hm]
    rw [wr_id (by omega), wr_id (by omega), if_pos c, e, bd_some]
    dsimp only
    rw [wr_bt]
    cases tcS (Sea h 0) z.2.1 q <;> rfl
  · simp only [sf_trades_b2, Mf_9 hm]
    rw [if_neg (by omega)]
  · simp only [sf_trades_b1, Mf_9 hm]
    rw [wr_id (by omega), wr_id (by omega), if_pos b]
  · simp only [sf_trades_b1, Mf_9 hm]
    rw [if_neg (by omega)]
/-- the first pair, as a number -/
def tcE (S : Sn) (P e : Int) : Bool := decide (e / 6 < e % 6 ∧ e % 6 < P) && tcS S (e / 6) (e % 6)
theorem tcE_f {S : Sn} {P e : Int} (h : ¬ (e / 6 < e % 6 ∧ e % 6 < P)) : tcE S P e = false := by unfold tcE; rw [decide_eq_false h]; rfl
theorem tcE_t {S : Sn} {P p q : Int} (hp : 0 ≤ p ∧ p < q) (hq : q < P) (hP : P ≤ 6) : tcE S P (6 * p + q) = tcS S p q := by
  unfold tcE
  have e1 : (6 * p + q) / 6 = p := by omega
  have e2 : (6 * p + q) % 6 = q := by omega
  rw [e1, e2, decide_eq_true (⟨hp.2, hq⟩ : _ ∧ _)]; rfl
def tdE (e : Int) : Int := if e = -1 then -1 else 10 * (e / 6) + e % 6
theorem tdE_pq {p q : Int} (hp : 0 ≤ p ∧ p < q) (hq : q < 6) : tdE (6 * p + q) = 10 * p + q := by
  unfold tdE
  rw [if_neg (by omega)]; omega
theorem st_trade_c {h m : Hp} (hI : INV h) (hM : Mf h m) : ∃ e m', (iter FU sf_trade_b1 (0, m) = some (if e = -1 then .inl m' else .inr (tdE e, m'))) ∧ Mf h m' ∧ Fst (tcE (Sea h 0) (h 9 5)) 0 36 e := by
  have lP := (INV_l hI).2.2.2.2.2.1
  obtain ⟨r, e, q⟩ := lp_ex (body := sf_trade_b1) (s0 := (0, m)) (Q := fun r => ∃ e m', r = (if e = -1 then .inl m' else .inr (tdE e, m')) ∧ Mf h m' ∧ Fst (tcE (Sea h 0) (h 9 5)) 0 36 e) (fun i s => s.1 = i ∧ Mf h s.2 ∧ ∀ e, 0 ≤ e → e < 6 * i → tcE (Sea h 0) (h 9 5) e = false) (h 9 5) lP.1 (by omega) ⟨rfl, hM, fun e a b => by omega⟩ (fun i s a b hi => by
    obtain ⟨p, m⟩ := s
    obtain ⟨q1, q2, q3⟩ := hi
    dsimp only at q1 q2 q3
    subst q1
    obtain ⟨r, e2, y⟩ := lp_ex (body := sf_trade_b2 (p, m)) (s0 := (p + 1, m)) (Q := fun r => (∃ m', r = .inl m' ∧ Mf h m' ∧ ∀ e, 0 ≤ e → e < 6 * (p + 1) → tcE (Sea h 0) (h 9 5) e = false) ∨ (∃ e m', r = .inr (tdE e, m') ∧ Mf h m' ∧ 0 ≤ e ∧ Fst (tcE (Sea h 0) (h 9 5)) 0 36 e)) (fun i s => s.1 = p + 1 + i ∧ Mf h s.2 ∧ ∀ e, 0 ≤ e → e < 6 * p + (p + 1 + i) → tcE (Sea h 0) (h 9 5) e = false) (h 9 5 - (p + 1)) (by omega) (by omega) ⟨by dsimp only; omega, q2, fun e x y => by
        by_cases z : e < 6 * p
        · exact q3 e x z
        · exact tcE_f (by omega)⟩ (fun i s a' b' hi => by
      obtain ⟨q, m'⟩ := s
      obtain ⟨y1, y2, y3⟩ := hi
      dsimp only at y1 y2 y3
      obtain ⟨m2, e3, y4⟩ := c_isTr hI y2 (p := p) (q := q) (by omega) (by omega)
      have et := tcE_t (S := Sea h 0) (P := h 9 5) (p := p) (q := q) (by omega) (by omega) lP.2
      cases z : tcS (Sea h 0) p q
      · refine Or.inl ⟨(q + 1, m2), ?_, by dsimp only; omega, y4, ?_⟩
        · simp only [sf_trade_b2, Mf_9 y2]
          rw [wr_id (by omega), wr_id (by omega), if_pos (by omega), e3, bd_some, z]
          rfl
        · intro e x y
          by_cases ee : e = 6 * p + q
          · rw [ee, et]; exact z
          · exact y3 e x (by omega)
      · refine Or.inr ⟨.inr (tdE (6 * p + q), m2), ?_, Or.inr ⟨6 * p + q, m2, rfl, y4, by omega, Or.inl ⟨by omega, by omega, by rw [et]; exact z, fun j x y => y3 j x (by omega)⟩⟩⟩
        simp only [sf_trade_b2, Mf_9 y2]
        rw [wr_id (by omega), wr_id (by omega), if_pos (by omega), e3, bd_some, z, tdE_pq (by omega) (by omega)]
        rfl) (fun s hi => by
      obtain ⟨q, m'⟩ := s
      obtain ⟨y1, y2, y3⟩ := hi
      dsimp only at y1 y2 y3
      refine ⟨.inl m', ?_, Or.inl ⟨m', rfl, y2, ?_⟩⟩
      · simp only [sf_trade_b2, Mf_9 y2]
        rw [wr_id (by omega), wr_id (by omega), if_neg (by omega)]
      · intro e x y
        by_cases z : e < 6 * p + (p + 1 + (h 9 5 - (p + 1)))
        · exact y3 e x z
        · exact tcE_f (by omega))
    rcases y with ⟨m', x1, x2, x3⟩ | ⟨e, m', x1, x2, x3, x4⟩
    · refine Or.inl ⟨(p + 1, m'), ?_, rfl, x2, x3⟩
      simp only [sf_trade_b1, Mf_9 q2]
      rw [wr_id (by omega), wr_id (by omega), if_pos b, e2, bd_some, x1]
    · refine Or.inr ⟨.inr (tdE e, m'), ?_, e, m', by rw [if_neg (by omega)], x2, x4⟩
      simp only [sf_trade_b1, Mf_9 q2]
      rw [wr_id (by omega), wr_id (by omega), if_pos b, e2, bd_some, x1]) (fun s hi => by
    obtain ⟨p, m⟩ := s
    obtain ⟨q1, q2, q3⟩ := hi
    dsimp only at q1 q2 q3
    subst q1
    refine ⟨.inl m, ?_, -1, m, by rw [if_pos rfl], q2, Or.inr ⟨rfl, ?_⟩⟩
    · simp only [sf_trade_b1, Mf_9 q2]
      rw [if_neg (by omega)]
    · intro e x y
      by_cases z : e < 6 * h 9 5
      · exact q3 e x z
      · exact tcE_f (by omega))
  obtain ⟨e', m', x1, x2, x3⟩ := q
  exact ⟨e', m', by rw [e, x1], x2, x3⟩
/-- what the model has found ahead of e: n of them, the first is r -/
def TfE (c : Int → Bool) (E n r : Int) : Prop := 0 ≤ n ∧ ((n = 0 ∧ r = -1 ∧ ∀ e, 0 ≤ e → e < E → c e = false) ∨ (0 < n ∧ ∃ e, 0 ≤ e ∧ e < E ∧ c e = true ∧ (∀ j, 0 ≤ j → j < e → c j = false) ∧ r = tdE e))
theorem TfE_mono {c : Int → Bool} {E E' n r : Int} (hE : E ≤ E') (hc : ∀ e, E ≤ e → e < E' → c e = false) (h : TfE c E n r) : TfE c E' n r := by
  obtain ⟨h0, h1 | ⟨h1, e, h2, h3, h4⟩⟩ := h
  · refine ⟨h0, Or.inl ⟨h1.1, h1.2.1, ?_⟩⟩
    intro e a b
    by_cases z : e < E
    · exact h1.2.2 e a z
    · exact hc e (by omega) b
  · exact ⟨h0, Or.inr ⟨h1, e, h2, by omega, h4⟩⟩
theorem TfE_Fst {c : Int → Bool} {n r : Int} (h : TfE c 36 n r) : ∃ e, Fst c 0 36 e ∧ r = tdE e := by
  obtain ⟨h0, h1 | ⟨h1, e, h2, h3, h4, h5, h6⟩⟩ := h
  · exact ⟨-1, Or.inr ⟨rfl, h1.2.2⟩, by rw [h1.2.1]; rfl⟩
  · exact ⟨e, Or.inl ⟨h2, h3, h4, h5⟩, h6⟩
theorem md_tr_step {h m : Hp} (hI : INV h) (hM : Mf h m) {z : Int × Int × Hp} {v q : Int} (hp : 0 ≤ z.2.1 ∧ z.2.1 < q) (hq : q < h 9 5) (hv : 0 ≤ v ∧ v ≤ 100) : ∃ m', md_tradesOf_b2 z (v, q, m) = some (.inl ((if tcS (Sea h 0) z.2.1 q = true then v + 1 else v), q + 1, m')) ∧ Mf h m' ∧ m' 167 33 = if tcS (Sea h 0) z.2.1 q = true ∧ v = 0 then 10 * z.2.1 + q else m 167 33 := by
  obtain ⟨sW, sF, eK, eL, eP, eN⟩ := Sea_ok hI 0
  have lP := (INV_l hI).2.2.2.2.2.1
  have ok := swS_ok sW sF (p := z.2.1) (q := q) (by omega) (by omega)
  have r1 := shS_in ok.1 z.2.1
  have r2 := shS_in ok.1 q
  have r3 := shS_in sW z.2.1
  have r4 := shS_in sW q
  have n1 : ¬ wr 1 = 0 := by decide
  have n0 : wr 0 = 0 := rfl
  have keep : ∀ {t u : Hp} {w : Int} {x : Int × Hp}, Mf h t → md_gainOf t z.2.1 q w = some x → x.2 167 33 = t 167 33 := by
    intro t u w x ht ex
    obtain ⟨a1, b1, c1, d1, f1⟩ := m_laysFirst (Mf_L0 ht) (Mf_L9 ht)
    rw [Mf_Sea ht] at c1 d1
    obtain ⟨a2, b2, c2, f2⟩ := m_change sW sF c1 (p := z.2.1) (q := q) (by omega) (by omega)
    obtain ⟨a3, b3, c3, f3⟩ := m_grow ok.1 (MB_MP ok.1 ok.2 c2)
    have hw : 0 ≤ (if wr w = 0 then z.2.1 else q) ∧ (if wr w = 0 then z.2.1 else q) < sP (Sea h 0) := by split <;> omega
    unfold md_gainOf at ex
    rw [b1, bd_some, m_has sW sF d1 hw, bd_some, b2, bd_some, b3, bd_some, m_has ok.1 ok.2 c3 hw, bd_some] at ex
    have ex' := (Option.some.inj ex).symm
    rw [ex']
    dsimp only
    rw [f3 167 (by omega), f2 167 (by omega) (by omega), f1.2 33 (by omega)]
  obtain ⟨u, d1, mu⟩ := m_gainO hI hM (w := 0) (p := z.2.1) (q := q) (by omega) (by omega)
  have k1 := keep (u := u) hM d1
  obtain ⟨w, d2, mw⟩ := m_gainO hI mu (w := 1) (p := z.2.1) (q := q) (by omega) (by omega)
  have k2 := keep (u := u) mu d2
  rw [if_pos n0] at d1
  rw [if_neg n1] at d2
  dsimp only at k1 k2
  have c2 : m 174 4 = h 9 5 := (Mf_n hM).2.2.2.2.1
  have eb : md_tradesOf_b2 z (v, q, m) = Option.bind (if 0 < shS (swS z.2.1 q (Sea h 0)) z.2.1 - shS (Sea h 0) z.2.1 then Option.bind (md_gainOf u z.2.1 q 1) (fun r10 => if wr (r10.1) ≤ 0 then some (v, r10.2) else Option.bind (if wr v = 0 then lt (up r10.2 167 33 (10 * z.2.1 + q)) (fun h13 => some h13) else some (r10.2)) (fun s14 : Hp => some (v + 1, s14))) else some (v, u)) (fun s15 : Int × Hp => some (.inl (s15.1, q + 1, s15.2))) := by
    unfold md_tradesOf_b2 md_people
    dsimp only
    rw [c2, bd_some, wr_id (show -2147483648 ≤ q ∧ q < 2147483648 by omega), wr_id (show -2147483648 ≤ h 9 5 ∧ h 9 5 < 2147483648 by omega), if_pos hq, d1, bd_some]
    dsimp only
    rw [wr_id (show -2147483648 ≤ shS (swS z.2.1 q (Sea h 0)) z.2.1 - shS (Sea h 0) z.2.1 ∧ shS (swS z.2.1 q (Sea h 0)) z.2.1 - shS (Sea h 0) z.2.1 < 2147483648 by omega)]
  rw [eb]
  by_cases z1 : shS (Sea h 0) z.2.1 < shS (swS z.2.1 q (Sea h 0)) z.2.1
  · rw [if_pos (by omega), d2, bd_some]
    dsimp only
    rw [wr_id (show -2147483648 ≤ shS (swS z.2.1 q (Sea h 0)) q - shS (Sea h 0) q ∧ shS (swS z.2.1 q (Sea h 0)) q - shS (Sea h 0) q < 2147483648 by omega)]
    by_cases z2 : shS (Sea h 0) q < shS (swS z.2.1 q (Sea h 0)) q
    · have et : tcS (Sea h 0) z.2.1 q = true := decide_eq_true ⟨z1, z2⟩
      rw [if_neg (by omega), et, wr_id (show -2147483648 ≤ v ∧ v < 2147483648 by omega)]
      by_cases z3 : v = 0
      · rw [if_pos z3, lt_eq, bd_some, bd_some]
        refine ⟨_, rfl, Mf_up mw (by omega) (by omega) (by omega), ?_⟩
        dsimp only
        rw [up_eq, if_pos ⟨rfl, z3⟩]
      · rw [if_neg z3, bd_some, bd_some]
        refine ⟨_, rfl, mw, ?_⟩
        dsimp only
        rw [if_neg (fun y => z3 y.2), k2, k1]
    · have et : tcS (Sea h 0) z.2.1 q = false := decide_eq_false (fun y => z2 y.2)
      rw [if_pos (by omega), et, bd_some]
      refine ⟨_, rfl, mw, ?_⟩
      dsimp only
      rw [if_neg (by simp), k2, k1]
  · have et : tcS (Sea h 0) z.2.1 q = false := decide_eq_false (fun y => z1 y.1)
    rw [if_neg (by omega), et, bd_some]
    refine ⟨_, rfl, mu, ?_⟩
    dsimp only
    rw [if_neg (by simp), k1]
theorem st_trades_m {h m : Hp} (hI : INV h) (hM : Mf h m) : ∃ m', md_tradesOf m = some (cnt (h 9 5) (tcS (Sea h 0)), m') ∧ Mf h m' ∧ ∃ e, Fst (tcE (Sea h 0) (h 9 5)) 0 36 e ∧ m' 167 33 = tdE e := by
  have lP := (INV_l hI).2.2.2.2.2.1
  have cb : ∀ i, 0 ≤ i → i ≤ 6 → 0 ≤ sm i (fun p => sm (h 9 5) (fun q => if p < q ∧ tcS (Sea h 0) p q = true then 1 else 0)) ∧ sm i (fun p => sm (h 9 5) (fun q => if p < q ∧ tcS (Sea h 0) p q = true then 1 else 0)) ≤ 36 := by
    intro i a b
    have := sm_le a (f := fun p => sm (h 9 5) (fun q => if p < q ∧ tcS (Sea h 0) p q = true then 1 else 0)) (m := 0) (M := 6) (fun k _ _ => by
      have := sm_le lP.1 (f := fun q => if k < q ∧ tcS (Sea h 0) k q = true then 1 else 0) (m := 0) (M := 1) (fun j _ _ => by split <;> omega)
      omega)
    omega
  obtain ⟨r, e, r1, r2, r3⟩ := lp (body := md_tradesOf_b1) (s0 := (0, 0, up m 167 33 (-1))) (Q := fun r => r.1 = cnt (h 9 5) (tcS (Sea h 0)) ∧ Mf h r.2 ∧ TfE (tcE (Sea h 0) (h 9 5)) 36 r.1 (r.2 167 33)) (fun i s => s.1 = sm i (fun p => sm (h 9 5) (fun q => if p < q ∧ tcS (Sea h 0) p q = true then 1 else 0)) ∧ s.2.1 = i ∧ Mf h s.2.2 ∧ TfE (tcE (Sea h 0) (h 9 5)) (6 * i) s.1 (s.2.2 167 33)) (h 9 5) lP.1 (by omega) ⟨rfl, rfl, Mf_up hM (by omega) (by omega) (by omega), by dsimp only; rw [up_eq]; exact ⟨by omega, Or.inl ⟨rfl, rfl, fun e a b => by omega⟩⟩⟩ (fun i s a b hi => by
    obtain ⟨v, p, m⟩ := s
    obtain ⟨q1, q2, q3, q4⟩ := hi
    dsimp only at q1 q2 q3 q4
    subst q2
    have hv := cb p a (by omega)
    rw [← q1] at hv
    obtain ⟨r, e2, x1, x2, x3⟩ := lp (body := md_tradesOf_b2 (v, p, m)) (s0 := (v, p + 1, m)) (Q := fun r => r.1 = v + sm (h 9 5) (fun q => if p < q ∧ tcS (Sea h 0) p q = true then 1 else 0) ∧ Mf h r.2 ∧ TfE (tcE (Sea h 0) (h 9 5)) (6 * (p + 1)) r.1 (r.2 167 33)) (fun i s => s.1 = v + sm (p + 1 + i) (fun q => if p < q ∧ tcS (Sea h 0) p q = true then 1 else 0) ∧ s.2.1 = p + 1 + i ∧ Mf h s.2.2 ∧ (0 ≤ s.1 ∧ s.1 ≤ 36 + i) ∧ TfE (tcE (Sea h 0) (h 9 5)) (6 * p + (p + 1 + i)) s.1 (s.2.2 167 33)) (h 9 5 - (p + 1)) (by omega) (by omega) ⟨by
        have : sm (p + 1 + 0) (fun q => if p < q ∧ tcS (Sea h 0) p q = true then 1 else 0) = 0 := sm_null (by omega) (fun k x y => by rw [if_neg (by omega)])
        dsimp only
        rw [this, Int.add_zero], by dsimp only; omega, q3, by dsimp only; omega, TfE_mono (by omega) (fun e x y => tcE_f (by omega)) q4⟩ (fun i s a' b' hi => by
      obtain ⟨w, q, m'⟩ := s
      obtain ⟨y1, y2, y3, y5, y6⟩ := hi
      dsimp only at y1 y2 y3 y5 y6
      obtain ⟨m2, e3, y4, y7⟩ := md_tr_step hI y3 (z := (v, p, m)) (v := w) (q := q) (by dsimp only; omega) (by omega) (by omega)
      dsimp only at e3 y7
      have et := tcE_t (S := Sea h 0) (P := h 9 5) (p := p) (q := q) (by omega) (by omega) lP.2
      refine ⟨_, e3, ?_, ?_, y4, ?_, ?_⟩
      · dsimp only
        rw [show p + 1 + (i + 1) = p + 1 + i + 1 by omega, sm_succ (by omega), ← y2]
        rw [← y2] at y1
        by_cases z : tcS (Sea h 0) p q = true
        · rw [if_pos z, if_pos (⟨by omega, z⟩ : p < q ∧ tcS (Sea h 0) p q = true), y1]; omega
        · rw [if_neg z, if_neg (fun y => z y.2), y1]; omega
      · dsimp only; omega
      · dsimp only; split <;> omega
      · dsimp only
        rw [y7]
        cases z : tcS (Sea h 0) p q
        · rw [if_neg (by simp), if_neg (by simp)]
          refine TfE_mono (by omega) (fun e x y => ?_) y6
          have ee : e = 6 * p + q := by omega
          rw [ee, et]; exact z
        · rw [if_pos rfl]
          refine ⟨by omega, Or.inr ⟨by omega, ?_⟩⟩
          obtain ⟨_, h1 | ⟨h1, e, h2, h3, h4, h5, h6⟩⟩ := y6
          · rw [if_pos ⟨rfl, h1.1⟩]
            exact ⟨6 * p + q, by omega, by omega, by rw [et]; exact z, fun j x y => h1.2.2 j x (by omega), (tdE_pq (by omega) (by omega)).symm⟩
          · rw [if_neg (by omega)]
            exact ⟨e, h2, by omega, h4, h5, h6⟩) (fun s hi => by
      obtain ⟨w, q, m'⟩ := s
      obtain ⟨y1, y2, y3, y5, y6⟩ := hi
      dsimp only at y1 y2 y3 y5 y6
      have c2 : m' 174 4 = h 9 5 := (Mf_n y3).2.2.2.2.1
      have eq : q = h 9 5 := by omega
      refine ⟨(w, m'), ?_, ?_, y3, TfE_mono (by omega) (fun e x y => tcE_f (by omega)) y6⟩
      · unfold md_tradesOf_b2 md_people
        dsimp only
        rw [c2, bd_some, eq, if_neg (by omega)]
      · dsimp only
        rw [y1, ← y2, eq])
    obtain ⟨w, m'⟩ := r
    dsimp only at x1 x2 x3
    have c2 : m 174 4 = h 9 5 := (Mf_n q3).2.2.2.2.1
    refine ⟨(w, p + 1, m'), ?_, ?_, rfl, x2, x3⟩
    · unfold md_tradesOf_b1 md_people
      dsimp only
      rw [c2, bd_some, wr_id (by omega), wr_id (by omega), if_pos b, e2, bd_some]
    · dsimp only
      rw [sm_succ a, x1, q1]) (fun s hi => by
    obtain ⟨v, p, m⟩ := s
    obtain ⟨q1, q2, q3, q4⟩ := hi
    dsimp only at q1 q2 q3 q4
    subst q2
    have c2 : m 174 4 = h 9 5 := (Mf_n q3).2.2.2.2.1
    refine ⟨(v, m), ?_, q1, q3, TfE_mono (by omega) (fun e x y => tcE_f (by omega)) q4⟩
    unfold md_tradesOf_b1 md_people
    dsimp only
    rw [c2, bd_some, if_neg (by omega)])
  obtain ⟨v, m'⟩ := r
  dsimp only at r1 r2 r3
  refine ⟨m', ?_, r2, TfE_Fst r3⟩
  unfold md_tradesOf
  rw [lt_eq, e, bd_some, r1]
theorem st_trades : St_trades INV := by
  intro h hI
  have tc := th_cond hI
  have n1 : ¬ wr 1 = 0 := by decide
  have n0 : wr 0 = 0 := rfl
  by_cases g : h 9 0 = 1
  · obtain ⟨m, e, hm⟩ := st_trades_c hI (Mf_rfl hI)
    have m0 : Mf h (up m 167 0 0) := Mf_up hm (by omega) (by omega) (by omega)
    obtain ⟨m', e', hm', _⟩ := st_trades_m hI m0
    refine ⟨cnt (h 9 5) (tcS (Sea h 0)), m, cnt (h 9 5) (tcS (Sea h 0)), m', ?_, ?_, rfl, hm'.1⟩
    · unfold sf_trades
      rw [if_neg (by rw [tc]; simp [g]), e, bd_some]
    · unfold md_trades
      rw [lt_eq, Mf_isF hI m0, bd_some, bI_t g, if_neg n1, e', bd_some, bd_some]
  · have m0 : Mf h (up h 167 0 0) := Mf_self hI
    refine ⟨-2, h, -2, up h 167 0 0, ?_, ?_, rfl, m0.1⟩
    · unfold sf_trades; rw [if_pos (by rw [tc]; exact g)]
    · unfold md_trades
      rw [lt_eq, Mf_isF hI m0, bd_some, bI_f g, if_pos n0, bd_some]
theorem st_trade : St_trade INV := by
  intro h hI
  have tc := th_cond hI
  have n1 : ¬ wr 1 = 0 := by decide
  have n0 : wr 0 = 0 := rfl
  by_cases g : h 9 0 = 1
  · obtain ⟨e, m, x1, hm, x3⟩ := st_trade_c hI (Mf_rfl hI)
    have m0 : Mf h (up m 167 0 0) := Mf_up hm (by omega) (by omega) (by omega)
    obtain ⟨m', e', hm', e2, y1, y2⟩ := st_trades_m hI m0
    have ee : e2 = e := Fst_u (by omega) y1 x3
    refine ⟨tdE e, m, tdE e, m', ?_, ?_, rfl, hm'.1⟩
    · unfold sf_trade
      rw [if_neg (by rw [tc]; simp [g]), x1, bd_some]
      by_cases z : e = -1
      · rw [if_pos z, z]; rfl
      · rw [if_neg z]
    · unfold md_trade
      rw [lt_eq, Mf_isF hI m0, bd_some, bI_t g, if_neg n1, e', bd_some]
      dsimp only
      rw [y2, ee]
  · have m0 : Mf h (up h 167 0 0) := Mf_self hI
    refine ⟨-2, h, -2, up h 167 0 0, ?_, ?_, rfl, m0.1⟩
    · unfold sf_trade; rw [if_pos (by rw [tc]; exact g)]
    · unfold md_trade
      rw [lt_eq, Mf_isF hI m0, bd_some, bI_f g, if_pos n0]
