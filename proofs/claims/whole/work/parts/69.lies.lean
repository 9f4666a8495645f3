/-! Layer 2: lies -/
theorem bs6_mono : ∀ a b c d e f a' b' c' d' e' f' : Bool, (a → a') → (b → b') → (c → c') → (d → d') → (e → e') → (f → f') → bs6 a b c d e f ≤ bs6 a' b' c' d' e' f' := by decide +kernel
theorem bs_mono {c d : Int → Bool} (h : ∀ k, 0 ≤ k → k < 6 → c k = true → d k = true) : bs c ≤ bs d :=
  bs6_mono _ _ _ _ _ _ _ _ _ _ _ _ (h 0 (by omega) (by omega)) (h 1 (by omega) (by omega)) (h 2 (by omega) (by omega)) (h 3 (by omega) (by omega)) (h 4 (by omega) (by omega)) (h 5 (by omega) (by omega))
def sbS (v : Int) (c : Int → Bool) : Bool := decide (bs (fun k => tb v k && !c k) = 0)
theorem sb_le {v : Int} (hv : 0 ≤ v ∧ v < 64) {c : Int → Bool} (h : sbS v c = true) : v ≤ bs c := by
  have h1 := bs_eq0.mp (of_decide_eq_true h)
  rw [← bs_tb hv]
  refine bs_mono (fun k a b z => ?_)
  have := h1 k a b
  rw [z] at this
  simpa using this
def lsN (S : Sn) (p : Int) : Nat → Int × Int
  | 0 => (shS S p, 0)
  | n + 1 => if 0 < n ∧ sbS (n : Int) (opS S p) = true ∧ ((lsN S p n).1 < shS (hvS p (tb (n : Int)) S) p ∨ (shS (hvS p (tb (n : Int)) S) p = (lsN S p n).1 ∧ ct (tb (n : Int)) < ct (tb (lsN S p n).2))) then (shS (hvS p (tb (n : Int)) S) p, (n : Int)) else lsN S p n
def lsI (S : Sn) (p i : Int) : Int × Int := lsN S p i.toNat
theorem lsI_succ (S : Sn) (p : Int) {i : Int} (hi : 0 < i) : lsI S p (i + 1) = if sbS i (opS S p) = true ∧ ((lsI S p i).1 < shS (hvS p (tb i) S) p ∨ (shS (hvS p (tb i) S) p = (lsI S p i).1 ∧ ct (tb i) < ct (tb (lsI S p i).2))) then (shS (hvS p (tb i) S) p, i) else lsI S p i := by
  unfold lsI
  have e : (i + 1).toNat = i.toNat + 1 := by omega
  have e2 : ((i.toNat : Nat) : Int) = i := by omega
  have e3 : 0 < i.toNat := by omega
  rw [e, lsN, e2]
  simp only [e3, true_and]
theorem lsI_1 (S : Sn) (p : Int) : lsI S p 1 = (shS S p, 0) := by
  show lsN S p 1 = _
  rw [lsN, if_neg (by simp)]
  rfl
theorem lsI_in {S : Sn} (hW : WF S) (hF : Full S) (p : Int) : ∀ n, 1 ≤ n → n ≤ 64 → (-63 ≤ (lsI S p n).1 ∧ (lsI S p n).1 ≤ 9) ∧ (0 ≤ (lsI S p n).2 ∧ (lsI S p n).2 < n) := by
  intro n hn hn'
  have := ind_to (P := fun i => (-63 ≤ (lsI S p (i + 1)).1 ∧ (lsI S p (i + 1)).1 ≤ 9) ∧ (0 ≤ (lsI S p (i + 1)).2 ∧ (lsI S p (i + 1)).2 < i + 1)) (n := n - 1) (by
    rw [show (0 : Int) + 1 = 1 from rfl, lsI_1]
    have := shS_in hW p
    dsimp only
    omega) (fun i a b d => by
    rw [lsI_succ S p (show 0 < i + 1 by omega)]
    have := hv_in hW hF p (tb (i + 1)) p
    split
    · dsimp only; omega
    · omega) (n - 1) (by omega) (by omega)
  rw [show n - 1 + 1 = n by omega] at this
  exact this
theorem lsI_const (S : Sn) (p : Int) {n : Int} (hn : bs (opS S p) + 1 ≤ n) (hn' : n ≤ 64) : lsI S p n = lsI S p (bs (opS S p) + 1) := by
  have b0 := bs_in (opS S p)
  have := ind_to (P := fun i => lsI S p (bs (opS S p) + 1 + i) = lsI S p (bs (opS S p) + 1)) (n := n - (bs (opS S p) + 1)) (by rw [Int.add_zero]) (fun i a b d => by
    rw [← Int.add_assoc, lsI_succ S p (show 0 < bs (opS S p) + 1 + i by omega), if_neg, d]
    intro z
    have := sb_le (v := bs (opS S p) + 1 + i) (by omega) z.1
    omega) (n - (bs (opS S p) + 1)) (by omega) (by omega)
  rw [show bs (opS S p) + 1 + (n - (bs (opS S p) + 1)) = n by omega] at this
  exact this
theorem tb_cnt (h : Hp) {v : Int} (hv : 0 ≤ v ∧ v < 64) : jd_bitCount_0f7a4 h v = some (ct (tb v)) := by
  have := bitCount_bs h (tb v)
  rw [bs_tb hv] at this
  exact this
theorem tb_siz (h : Hp) {v : Int} (hv : 0 ≤ v ∧ v < 64) : md_sizeOf h v = some (ct (tb v)) := by
  have := sizeOf_bs h (tb v)
  rw [bs_tb hv] at this
  exact this
theorem sb_cond {v : Int} (hv : 0 ≤ v ∧ v < 64) (c : Int → Bool) : (wr (iand v (ixor (bs c) (-1))) = 0) = (sbS v c = true) := by
  rw [wr_iand]
  have : iand v (ixor (bs c) (-1)) = bs (fun k => tb v k && !c k) := by
    have := bs_andn (tb v) c
    rw [bs_tb hv] at this
    exact this
  rw [this]
  unfold sbS
  rw [decide_eq_true_eq]
theorem c_lies {h F : Hp} (hI : INV h) (hR : Rdy h F) {p : Int} (hp : 0 ≤ p ∧ p < h 9 5) : ∃ m', iter FU (sf_lies_b1 p (63, F)) (shS (Sea h 0) p, 0, 1, F) = some ((lsI (Sea h 0) p (bs (opS (Sea h 0) p) + 1)).2, m') ∧ Mf h m' := by
  obtain ⟨sW, sF, eK, eL, eP, eN⟩ := Sea_ok hI 0
  have lP := (INV_l hI).2.2.2.2.2.1
  have wp : wr p = p := wr_id (by omega)
  have o4 := (rdy_c0 hR).2.1 p hp.1 (by omega)
  have b0 := bs_in (opS (Sea h 0) p)
  obtain ⟨r, e, r1, r2⟩ := lp (body := sf_lies_b1 p (63, F)) (s0 := (shS (Sea h 0) p, 0, 1, F)) (Q := fun r => r.1 = (lsI (Sea h 0) p (bs (opS (Sea h 0) p) + 1)).2 ∧ Mf h r.2) (fun i s => s.1 = (lsI (Sea h 0) p (i + 1)).1 ∧ s.2.1 = (lsI (Sea h 0) p (i + 1)).2 ∧ s.2.2.1 = i + 1 ∧ Mf h s.2.2.2) (bs (opS (Sea h 0) p)) b0.1 (by omega) ⟨by dsimp only; rw [show (0 : Int) + 1 = 1 from rfl, lsI_1], by dsimp only; rw [show (0 : Int) + 1 = 1 from rfl, lsI_1], rfl, hR.1⟩ (fun i s a b hi => by
    obtain ⟨w, f, c, m⟩ := s
    obtain ⟨q1, q2, q3, q4⟩ := hi
    dsimp only at q1 q2 q3 q4
    have li := lsI_in sW sF p (i + 1) (by omega) (by omega)
    rw [← q1, ← q2] at li
    have hv := hv_in sW sF p (tb c) p
    have hc : 0 ≤ c ∧ c < 64 := by omega
    have ls := lsI_succ (Sea h 0) p (show 0 < i + 1 by omega)
    rw [← q1, ← q2, ← q3] at ls
    rw [show i + 1 + 1 = c + 1 by omega]
    obtain ⟨m', e1, k1, hR1⟩ := c_ifHid hI q4 hp (tb c)
    rw [bs_tb hc] at e1
    have x1 := c_share k1 (p := p) (show sP (Sea h 0) ≤ 6 by omega) (show 0 ≤ p ∧ p < sP (Sea h 0) by omega)
    have cc := ct_in (tb c)
    have cf := ct_in (tb f)
    have eb : sf_lies_b1 p (63, F) (w, f, c, m) = Option.bind (if sbS c (opS (Sea h 0) p) = true then (if shS (hvS p (tb c) (Sea h 0)) p ≤ w then (if shS (hvS p (tb c) (Sea h 0)) p = w then (if ct (tb c) < ct (tb f) then some (shS (hvS p (tb c) (Sea h 0)) p, c, m') else some (w, f, m')) else some (w, f, m')) else some (shS (hvS p (tb c) (Sea h 0)) p, c, m')) else some (w, f, m)) (fun s20 : Int × Int × Hp => some (.inl (s20.1, s20.2.1, c + 1, s20.2.2))) := by
      simp only [sf_lies_b1, wp, show F (63 + 4) p = bs (opS (Sea h 0) p) from o4, sb_cond hc]
      rw [wr_bs, wr_id (by omega), if_pos (by omega), e1, bd_some]
      dsimp only
      rw [chk_t sh19, x1, bd_some, tb_cnt m' hc, bd_some, tb_cnt m' (by omega), bd_some, w32 (show -1000000 ≤ shS (hvS p (tb c) (Sea h 0)) p ∧ shS (hvS p (tb c) (Sea h 0)) p ≤ 1000000 by omega), w32 (show -1000000 ≤ w ∧ w ≤ 1000000 by omega), w32 (show -1000000 ≤ ct (tb c) ∧ ct (tb c) ≤ 1000000 by omega), w32 (show -1000000 ≤ ct (tb f) ∧ ct (tb f) ≤ 1000000 by omega)]
    rw [eb, ls]
    by_cases z1 : sbS c (opS (Sea h 0) p) = true
    · rw [if_pos z1]
      by_cases z2 : w < shS (hvS p (tb c) (Sea h 0)) p
      · rw [if_neg (by omega), bd_some, if_pos ⟨z1, Or.inl z2⟩]
        exact ⟨_, rfl, rfl, rfl, rfl, hR1.1⟩
      · rw [if_pos (by omega)]
        by_cases z3 : shS (hvS p (tb c) (Sea h 0)) p = w
        · rw [if_pos z3]
          by_cases z4 : ct (tb c) < ct (tb f)
          · rw [if_pos z4, bd_some, if_pos ⟨z1, Or.inr ⟨z3, z4⟩⟩]
            exact ⟨_, rfl, rfl, rfl, rfl, hR1.1⟩
          · rw [if_neg z4, bd_some, if_neg (fun y => by rcases y.2 with y | y <;> omega)]
            exact ⟨_, rfl, by rw [q3]; exact q1, by rw [q3]; exact q2, rfl, hR1.1⟩
        · rw [if_neg z3, bd_some, if_neg (fun y => by rcases y.2 with y | y <;> omega)]
          exact ⟨_, rfl, by rw [q3]; exact q1, by rw [q3]; exact q2, rfl, hR1.1⟩
    · rw [if_neg z1, bd_some, if_neg (fun y => z1 y.1)]
      exact ⟨_, rfl, by rw [q3]; exact q1, by rw [q3]; exact q2, rfl, q4⟩) (fun s hi => by
    obtain ⟨w, f, c, m⟩ := s
    obtain ⟨q1, q2, q3, q4⟩ := hi
    dsimp only at q1 q2 q3 q4
    refine ⟨(f, m), ?_, q2, q4⟩
    simp only [sf_lies_b1, wp, show F (63 + 4) p = bs (opS (Sea h 0) p) from o4]
    rw [wr_bs, wr_id (by omega), if_neg (by omega)])
  obtain ⟨v, m'⟩ := r
  dsimp only at r1 r2
  exact ⟨m', by rw [e, r1], r2⟩
theorem pow_in : ∀ k : Int, 0 ≤ k → k < 6 → 1 ≤ ishl 1 k ∧ ishl 1 k ≤ 32 := six (by decide) (by decide) (by decide) (by decide) (by decide) (by decide)
theorem m_lies {h u : Hp} (hI : INV h) (hM : Mf h u) {p : Int} (hp : 0 ≤ p ∧ p < h 9 5) : ∃ m', iter FU (md_lies_b1 p (bs (opS (Sea h 0) p))) (shS (Sea h 0) p, 0, 1, u) = some ((lsI (Sea h 0) p (ishl 1 (h 9 1))).2, m') ∧ Mf h m' := by
  obtain ⟨sW, sF, eK, eL, eP, eN⟩ := Sea_ok hI 0
  have lP := (INV_l hI).2.2.2.2.2.1
  have lK := (INV_l hI).2.1
  have c0 : ∀ {m : Hp}, Mf h m → m 174 0 = h 9 1 := fun hm => (Mf_n hm).1
  have pw := pow_in (h 9 1) lK.1 (by omega)
  have wpw : wr (ishl 1 (h 9 1)) = ishl 1 (h 9 1) := wr_ishl _ _
  obtain ⟨r, e, r1, r2⟩ := lp (body := md_lies_b1 p (bs (opS (Sea h 0) p))) (s0 := (shS (Sea h 0) p, 0, 1, u)) (Q := fun r => r.1 = (lsI (Sea h 0) p (ishl 1 (h 9 1))).2 ∧ Mf h r.2) (fun i s => s.1 = (lsI (Sea h 0) p (i + 1)).1 ∧ s.2.1 = (lsI (Sea h 0) p (i + 1)).2 ∧ s.2.2.1 = i + 1 ∧ Mf h s.2.2.2) (ishl 1 (h 9 1) - 1) (by omega) (by omega) ⟨by dsimp only; rw [show (0 : Int) + 1 = 1 from rfl, lsI_1], by dsimp only; rw [show (0 : Int) + 1 = 1 from rfl, lsI_1], rfl, hM⟩ (fun i s a b hi => by
    obtain ⟨w, f, c, m⟩ := s
    obtain ⟨q1, q2, q3, q4⟩ := hi
    dsimp only at q1 q2 q3 q4
    have li := lsI_in sW sF p (i + 1) (by omega) (by omega)
    rw [← q1, ← q2] at li
    have hv := hv_in sW sF p (tb c) p
    have hc : 0 ≤ c ∧ c < 64 := by omega
    have ls := lsI_succ (Sea h 0) p (show 0 < i + 1 by omega)
    rw [← q1, ← q2, ← q3] at ls
    rw [show i + 1 + 1 = c + 1 by omega]
    obtain ⟨m', e1, k1, hR1⟩ := m_hid hI q4 hp (tb c)
    rw [bs_tb hc] at e1
    have cc := ct_in (tb c)
    have cf := ct_in (tb f)
    have eb : md_lies_b1 p (bs (opS (Sea h 0) p)) (w, f, c, m) = Option.bind (if sbS c (opS (Sea h 0) p) = true then (if w ≤ shS (hvS p (tb c) (Sea h 0)) p then (if shS (hvS p (tb c) (Sea h 0)) p = w then (if ct (tb f) ≤ ct (tb c) then some (w, f, m') else some (shS (hvS p (tb c) (Sea h 0)) p, c, m')) else some (shS (hvS p (tb c) (Sea h 0)) p, c, m')) else some (w, f, m')) else some (w, f, m)) (fun s16 : Int × Int × Hp => some (.inl (s16.1, s16.2.1, c + 1, s16.2.2))) := by
      simp only [md_lies_b1, md_kindsAll, c0 q4, bd_some, sb_cond hc]
      rw [wpw, wr_id (by omega), if_pos (by omega), e1, bd_some]
      dsimp only
      rw [tb_siz m' hc, bd_some, tb_siz m' (by omega), bd_some, w32 (show -1000000 ≤ shS (hvS p (tb c) (Sea h 0)) p ∧ shS (hvS p (tb c) (Sea h 0)) p ≤ 1000000 by omega), w32 (show -1000000 ≤ w ∧ w ≤ 1000000 by omega), w32 (show -1000000 ≤ ct (tb c) ∧ ct (tb c) ≤ 1000000 by omega), w32 (show -1000000 ≤ ct (tb f) ∧ ct (tb f) ≤ 1000000 by omega)]
    rw [eb, ls]
    by_cases z1 : sbS c (opS (Sea h 0) p) = true
    · rw [if_pos z1]
      by_cases z2 : w < shS (hvS p (tb c) (Sea h 0)) p
      · rw [if_pos (show w ≤ shS (hvS p (tb c) (Sea h 0)) p by omega), if_neg (by omega), bd_some, if_pos ⟨z1, Or.inl z2⟩]
        exact ⟨_, rfl, rfl, rfl, rfl, hR1⟩
      · by_cases z3 : shS (hvS p (tb c) (Sea h 0)) p = w
        · rw [if_pos (show w ≤ shS (hvS p (tb c) (Sea h 0)) p by omega), if_pos z3]
          by_cases z4 : ct (tb c) < ct (tb f)
          · rw [if_neg (by omega), bd_some, if_pos ⟨z1, Or.inr ⟨z3, z4⟩⟩]
            exact ⟨_, rfl, rfl, rfl, rfl, hR1⟩
          · rw [if_pos (by omega), bd_some, if_neg (fun y => by rcases y.2 with y | y <;> omega)]
            exact ⟨_, rfl, by rw [q3]; exact q1, by rw [q3]; exact q2, rfl, hR1⟩
        · rw [if_neg (by omega), bd_some, if_neg (fun y => by rcases y.2 with y | y <;> omega)]
          exact ⟨_, rfl, by rw [q3]; exact q1, by rw [q3]; exact q2, rfl, hR1⟩
    · rw [if_neg z1, bd_some, if_neg (fun y => z1 y.1)]
      exact ⟨_, rfl, by rw [q3]; exact q1, by rw [q3]; exact q2, rfl, q4⟩) (fun s hi => by
    obtain ⟨w, f, c, m⟩ := s
    obtain ⟨q1, q2, q3, q4⟩ := hi
    dsimp only at q1 q2 q3 q4
    refine ⟨(f, m), ?_, ?_, q4⟩
    · simp only [md_lies_b1, md_kindsAll, c0 q4, bd_some]
      rw [wpw, wr_id (by omega), if_neg (by omega)]
    · dsimp only
      rw [q2, show ishl 1 (h 9 1) - 1 + 1 = ishl 1 (h 9 1) by omega])
  obtain ⟨v, m'⟩ := r
  dsimp only at r1 r2
  exact ⟨m', by rw [e, r1], r2⟩
theorem op_lt {S : Sn} {p k : Int} (hk : sK S ≤ k) : opS S p k = false := by
  have : ¬ k < sK S := by omega
  simp [opS, hatS, upto, this]
theorem st_lies : St_lies INV := by
  intro h hI a1 w1
  have n1 : ¬ wr 1 = 0 := by decide
  have n0 : wr 0 = 0 := rfl
  have lP := (INV_l hI).2.2.2.2.2.1
  have lK := (INV_l hI).2.1
  by_cases g : 0 ≤ a1 ∧ a1 < h 9 5
  · obtain ⟨sW, sF, eK, eL, eP, eN⟩ := Sea_ok hI 0
    obtain ⟨F, hR, hs⟩ := c_rdy (Mf_rfl hI)
    have e0 : sf_seasonAt h 0 = some (63, F) := hs 0 (by omega) (by omega)
    have x2 := c_share (rdy_c0 hR) (p := a1) (by omega) (by omega)
    obtain ⟨m, e, hm⟩ := c_lies hI hR g
    have m0 : Mf h (up m 167 0 0) := Mf_up hm (by omega) (by omega) (by omega)
    obtain ⟨u, e1, kA, mu⟩ := m_hid0 hI m0 g
    have e2 := m_open sW kA.1 (p := a1) (by omega)
    obtain ⟨m', e', hm'⟩ := m_lies hI mu g
    have le : bs (opS (Sea h 0) a1) + 1 ≤ ishl 1 (h 9 1) := by
      have h1 : bs (opS (Sea h 0) a1) ≤ bs (fun k => decide (k < h 9 1)) := bs_mono (fun k a b z => by
        by_cases y : k < h 9 1
        · simp [y]
        · rw [op_lt (by omega)] at z; exact absurd z (by simp))
      rw [← bs_shl1 (h 9 1) lK.1 (by omega)] at h1
      omega
    have pw := pow_in (h 9 1) lK.1 (by omega)
    rw [lsI_const _ _ le (by omega)] at e'
    refine ⟨(lsI (Sea h 0) a1 (bs (opS (Sea h 0) a1) + 1)).2, m, (lsI (Sea h 0) a1 (bs (opS (Sea h 0) a1) + 1)).2, m', ?_, ?_, rfl, hm'.1⟩
    · unfold sf_lies
      rw [c_isP hI w1, bd_some, bI_t g, if_neg n1, e0, bd_some]
      dsimp only
      rw [chk_t sh63, w1, chk_t (by omega), rdy_0 hR, bd_some]
      dsimp only
      rw [chk_t sh63, x2, bd_some, e, bd_some]
    · unfold md_lies
      rw [lt_eq, Mf_isP hI m0 w1, bd_some, bI_t g, if_neg n1, e1, bd_some]
      dsimp only
      rw [e2, bd_some, e', bd_some]
  · have m0 : Mf h (up h 167 0 0) := Mf_self hI
    refine ⟨-2, h, -2, up h 167 0 0, ?_, ?_, rfl, m0.1⟩
    · unfold sf_lies
      rw [c_isP hI w1, bd_some, bI_f g, if_pos n0]
    · unfold md_lies
      rw [lt_eq, Mf_isP hI m0 w1, bd_some, bI_f g, if_pos n0]
