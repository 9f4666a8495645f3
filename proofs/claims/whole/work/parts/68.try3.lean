/-! Layer 2: hiding -/
theorem gv_in {S : Sn} (hW : WF S) (hF : Full S) {x : Int} (hx : 0 ≤ x ∧ x ≤ 1) (y p q : Int) : -65 ≤ gvS x y p q S ∧ gvS x y p q S ≤ 9 := by
  have := shS_in (wH_ok (fun r j => if (x = 1 ∧ r = p) ∨ (y = 1 ∧ r = q) then decide (j < 5) else sH S r j) hW hF).1 p
  unfold gvS gtS
  omega
theorem st_gets : St_gets INV := by
  intro h hI a1 a2 a3 a4 w1 w2 w3 w4
  have n1 : ¬ wr 1 = 0 := by decide
  have n0 : wr 0 = 0 := rfl
  have m0 : Mf h (up h 167 0 0) := Mf_self hI
  by_cases g : (0 ≤ a1 ∧ a1 < h 9 5) ∧ (0 ≤ a2 ∧ a2 < h 9 5) ∧ a1 ≠ a2
  · by_cases g3 : 0 ≤ a3 ∧ a3 ≤ 1
    · by_cases g4 : 0 ≤ a4 ∧ a4 ≤ 1
      · obtain ⟨m, e1, hm⟩ := c_got hI (Mf_rfl hI) g.1 g.2.1 g3 g4
        have m1 : Mf h (up m 167 0 0) := Mf_up hm (by omega) (by omega) (by omega)
        obtain ⟨u, e2, hu⟩ := m_got hI m1 g.1 g.2.1 g3 g4
        refine ⟨gvS a3 a4 a1 a2 (Sea h 0), m, gvS a3 a4 a1 a2 (Sea h 0), u, ?_, ?_, rfl, hu.1⟩
        · unfold sf_gets
          rw [c_pair hI w1 w2, bd_some, bI_t g, if_neg n1, c_choice h w3, bd_some, bI_t g3, if_neg n1, c_choice h w4, bd_some, bI_t g4, if_neg n1, e1, bd_some]
        · unfold md_gets
          rw [lt_eq, Mf_two hI m1 w1 w2, bd_some, bI_t g, if_neg n1, Mf_half w3, bd_some, bI_t g3, if_neg n1, Mf_half w4, bd_some, bI_t g4, if_neg n1, e2, bd_some, bd_some]
      · refine ⟨-1000, h, -1000, up h 167 0 0, ?_, ?_, rfl, m0.1⟩
        · unfold sf_gets
          rw [c_pair hI w1 w2, bd_some, bI_t g, if_neg n1, c_choice h w3, bd_some, bI_t g3, if_neg n1, c_choice h w4, bd_some, bI_f g4, if_pos n0]
        · unfold md_gets
          rw [lt_eq, Mf_two hI m0 w1 w2, bd_some, bI_t g, if_neg n1, Mf_half w3, bd_some, bI_t g3, if_neg n1, Mf_half w4, bd_some, bI_f g4, if_pos n0, bd_some]
    · refine ⟨-1000, h, -1000, up h 167 0 0, ?_, ?_, rfl, m0.1⟩
      · unfold sf_gets
        rw [c_pair hI w1 w2, bd_some, bI_t g, if_neg n1, c_choice h w3, bd_some, bI_f g3, if_pos n0]
      · unfold md_gets
        rw [lt_eq, Mf_two hI m0 w1 w2, bd_some, bI_t g, if_neg n1, Mf_half w3, bd_some, bI_f g3, if_pos n0, bd_some]
  · refine ⟨-1000, h, -1000, up h 167 0 0, ?_, ?_, rfl, m0.1⟩
    · unfold sf_gets
      rw [c_pair hI w1 w2, bd_some, bI_f g, if_pos n0]
    · unfold md_gets
      rw [lt_eq, Mf_two hI m0 w1 w2, bd_some, bI_f g, if_pos n0, bd_some]
/-! rests -/
def rcS (S : Sn) (p q k : Int) : Bool := decide (gvS (1 - k % 2) (k / 2) p q S ≤ gvS (k % 2) (k / 2) p q S ∧ gvS (1 - k / 2) (k % 2) q p S ≤ gvS (k / 2) (k % 2) q p S)
theorem four {P : Int → Prop} (h0 : P 0) (h1 : P 1) (h2 : P 2) (h3 : P 3) : ∀ j, 0 ≤ j → j < 4 → P j := by
  intro j a b
  have : j = 0 ∨ j = 1 ∨ j = 2 ∨ j = 3 := by omega
  rcases this with e | e | e | e <;> (subst e; assumption)
theorem k_and : ∀ k : Int, 0 ≤ k → k < 4 → iand k 1 = k % 2 := four (by decide) (by decide) (by decide) (by decide)
theorem k_shr : ∀ k : Int, 0 ≤ k → k < 4 → ishr k 1 = k / 2 := four (by decide) (by decide) (by decide) (by decide)
theorem k_irm : ∀ k : Int, 0 ≤ k → k < 4 → irm k 2 = k % 2 := four (by decide) (by decide) (by decide) (by decide)
theorem k_idv : ∀ k : Int, 0 ≤ k → k < 4 → idv k 2 = k / 2 := four (by decide) (by decide) (by decide) (by decide)
theorem w32 {z : Int} (h : -1000000 ≤ z ∧ z ≤ 1000000) : wr z = z := wr_id (by omega)
theorem st_rests : St_rests INV := by
  intro h hI a1 a2 w1 w2
  have n1 : ¬ wr 1 = 0 := by decide
  have n0 : wr 0 = 0 := rfl
  have w4 : wr 4 = 4 := rfl
  by_cases g : (0 ≤ a1 ∧ a1 < h 9 5) ∧ (0 ≤ a2 ∧ a2 < h 9 5) ∧ a1 ≠ a2
  · obtain ⟨sW, sF, eK, eL, eP, eN⟩ := Sea_ok hI 0
    obtain ⟨r, e, r1, r2⟩ := lp (body := sf_rests_b1 a1 a2) (s0 := (0, 0, h)) (Q := fun r => r.1 = bs (upto 4 (rcS (Sea h 0) a1 a2)) ∧ Mf h r.2) (fun i s => s.1 = bs (upto i (rcS (Sea h 0) a1 a2)) ∧ s.2.1 = i ∧ Mf h s.2.2) 4 (by omega) (by omega) ⟨(upto0 _).symm, rfl, Mf_rfl hI⟩ (fun i s a b hi => by
      obtain ⟨v, c, m⟩ := s
      obtain ⟨q1, q2, q3⟩ := hi
      dsimp only at q1 q2 q3
      subst q2
      have hx : 0 ≤ c % 2 ∧ c % 2 ≤ 1 := by omega
      have hx' : 0 ≤ 1 - c % 2 ∧ 1 - c % 2 ≤ 1 := by omega
      have hy : 0 ≤ c / 2 ∧ c / 2 ≤ 1 := by omega
      have hy' : 0 ≤ 1 - c / 2 ∧ 1 - c / 2 ≤ 1 := by omega
      obtain ⟨m1, e1, hm1⟩ := c_got hI q3 g.1 g.2.1 hx hy
      obtain ⟨m2, e2, hm2⟩ := c_got hI hm1 g.1 g.2.1 hx' hy
      obtain ⟨m3, e3, hm3⟩ := c_got hI hm2 g.2.1 g.1 hy hx
      obtain ⟨m4, e4, hm4⟩ := c_got hI hm3 g.2.1 g.1 hy' hx
      have i1 := gv_in sW sF hx (c / 2) a1 a2
      have i2 := gv_in sW sF hx' (c / 2) a1 a2
      have i3 := gv_in sW sF hy (c % 2) a2 a1
      have i4 := gv_in sW sF hy' (c % 2) a2 a1
      have eb : sf_rests_b1 a1 a2 (v, c, m) = Option.bind (if gvS (1 - c % 2) (c / 2) a1 a2 (Sea h 0) ≤ gvS (c % 2) (c / 2) a1 a2 (Sea h 0) then (if gvS (1 - c / 2) (c % 2) a2 a1 (Sea h 0) ≤ gvS (c / 2) (c % 2) a2 a1 (Sea h 0) then some (ior v (ishl 1 c), m4) else some (v, m4)) else some (v, m2)) (fun s11 : Int × Hp => some (.inl (s11.1, c + 1, s11.2))) := by
        unfold sf_rests_b1
        dsimp only
        rw [k_and c a b, k_shr c a b, w4, w32 (show -1000000 ≤ c ∧ c ≤ 1000000 by omega), if_pos b, e1, bd_some]
        dsimp only
        rw [e2, bd_some]
        dsimp only
        rw [w32 (show -1000000 ≤ gvS (1 - c % 2) (c / 2) a1 a2 (Sea h 0) ∧ gvS (1 - c % 2) (c / 2) a1 a2 (Sea h 0) ≤ 1000000 by omega), w32 (show -1000000 ≤ gvS (c % 2) (c / 2) a1 a2 (Sea h 0) ∧ gvS (c % 2) (c / 2) a1 a2 (Sea h 0) ≤ 1000000 by omega), e3, bd_some]
        dsimp only
        rw [e4, bd_some]
        dsimp only
        rw [w32 (show -1000000 ≤ gvS (1 - c / 2) (c % 2) a2 a1 (Sea h 0) ∧ gvS (1 - c / 2) (c % 2) a2 a1 (Sea h 0) ≤ 1000000 by omega), w32 (show -1000000 ≤ gvS (c / 2) (c % 2) a2 a1 (Sea h 0) ∧ gvS (c / 2) (c % 2) a2 a1 (Sea h 0) ≤ 1000000 by omega)]
      rw [eb]
      by_cases z1 : gvS (1 - c % 2) (c / 2) a1 a2 (Sea h 0) ≤ gvS (c % 2) (c / 2) a1 a2 (Sea h 0)
      · rw [if_pos z1]
        by_cases z2 : gvS (1 - c / 2) (c % 2) a2 a1 (Sea h 0) ≤ gvS (c / 2) (c % 2) a2 a1 (Sea h 0)
        · rw [if_pos z2, bd_some]
          refine ⟨_, rfl, ?_, rfl, hm4⟩
          rw [← bs_up _ a (show c < 6 by omega), if_pos (show rcS (Sea h 0) a1 a2 c = true from decide_eq_true ⟨z1, z2⟩), q1]
        · rw [if_neg z2, bd_some]
          refine ⟨_, rfl, ?_, rfl, hm4⟩
          rw [← bs_up _ a (show c < 6 by omega), if_neg (by rw [show rcS (Sea h 0) a1 a2 c = false from decide_eq_false (fun y => z2 y.2)]; simp), q1]
      · rw [if_neg z1, bd_some]
        refine ⟨_, rfl, ?_, rfl, hm2⟩
        rw [← bs_up _ a (show c < 6 by omega), if_neg (by rw [show rcS (Sea h 0) a1 a2 c = false from decide_eq_false (fun y => z1 y.1)]; simp), q1]) (fun s hi => by
      obtain ⟨v, c, m⟩ := s
      obtain ⟨q1, q2, q3⟩ := hi
      dsimp only at q1 q2 q3
      subst q2
      refine ⟨(v, m), ?_, q1, q3⟩
      unfold sf_rests_b1
      dsimp only
      rw [if_neg (by omega)])
    obtain ⟨v, m⟩ := r
    dsimp only at r1 r2
    have m0 : Mf h (up m 167 0 0) := Mf_up r2 (by omega) (by omega) (by omega)
    obtain ⟨r, e', z1, z2⟩ := lp (body := md_rests_b1 a1 a2) (s0 := (0, 0, up m 167 0 0)) (Q := fun r => r.1 = bs (upto 4 (rcS (Sea h 0) a1 a2)) ∧ Mf h r.2) (fun i s => s.1 = bs (upto i (rcS (Sea h 0) a1 a2)) ∧ s.2.1 = i ∧ Mf h s.2.2) 4 (by omega) (by omega) ⟨(upto0 _).symm, rfl, m0⟩ (fun i s a b hi => by
      obtain ⟨v, c, m⟩ := s
      obtain ⟨q1, q2, q3⟩ := hi
      dsimp only at q1 q2 q3
      subst q2
      have hx : 0 ≤ c % 2 ∧ c % 2 ≤ 1 := by omega
      have hx' : 0 ≤ 1 - c % 2 ∧ 1 - c % 2 ≤ 1 := by omega
      have hy : 0 ≤ c / 2 ∧ c / 2 ≤ 1 := by omega
      have hy' : 0 ≤ 1 - c / 2 ∧ 1 - c / 2 ≤ 1 := by omega
      have ne : a2 ≠ a1 := fun z => g.2.2 z.symm
      obtain ⟨m1, e1, hm1⟩ := m_got hI q3 g.1 g.2.1 hx' hy
      obtain ⟨m2, e2, hm2⟩ := m_got hI hm1 g.1 g.2.1 hx hy
      obtain ⟨m3, e3, hm3⟩ := m_got' hI hm2 g.1 g.2.1 hx hy' ne
      obtain ⟨m4, e4, hm4⟩ := m_got' hI hm3 g.1 g.2.1 hx hy ne
      have i1 := gv_in sW sF hx (c / 2) a1 a2
      have i2 := gv_in sW sF hx' (c / 2) a1 a2
      have i3 := gv_in sW sF hy (c % 2) a2 a1
      have i4 := gv_in sW sF hy' (c % 2) a2 a1
      have eb : md_rests_b1 a1 a2 (v, c, m) = Option.bind (if gvS (1 - c % 2) (c / 2) a1 a2 (Sea h 0) ≤ gvS (c % 2) (c / 2) a1 a2 (Sea h 0) then (if gvS (1 - c / 2) (c % 2) a2 a1 (Sea h 0) ≤ gvS (c / 2) (c % 2) a2 a1 (Sea h 0) then some (1, m4) else some (0, m4)) else some (0, m2)) (fun s12 : Int × Hp => some (.inl (ior v (if wr s12.1 = 0 then 0 else ishl 1 c), c + 1, s12.2))) := by
        unfold md_rests_b1
        dsimp only
        rw [k_irm c a b, k_idv c a b, w4, w32 (show -1000000 ≤ c ∧ c ≤ 1000000 by omega), if_pos b, e1, bd_some]
        dsimp only
        rw [e2, bd_some]
        dsimp only
        rw [w32 (show -1000000 ≤ gvS (1 - c % 2) (c / 2) a1 a2 (Sea h 0) ∧ gvS (1 - c % 2) (c / 2) a1 a2 (Sea h 0) ≤ 1000000 by omega), w32 (show -1000000 ≤ gvS (c % 2) (c / 2) a1 a2 (Sea h 0) ∧ gvS (c % 2) (c / 2) a1 a2 (Sea h 0) ≤ 1000000 by omega), e3, bd_some]
        dsimp only
        rw [e4, bd_some]
        dsimp only
        rw [w32 (show -1000000 ≤ gvS (1 - c / 2) (c % 2) a2 a1 (Sea h 0) ∧ gvS (1 - c / 2) (c % 2) a2 a1 (Sea h 0) ≤ 1000000 by omega), w32 (show -1000000 ≤ gvS (c / 2) (c % 2) a2 a1 (Sea h 0) ∧ gvS (c / 2) (c % 2) a2 a1 (Sea h 0) ≤ 1000000 by omega)]
      rw [eb]
      by_cases z1 : gvS (1 - c % 2) (c / 2) a1 a2 (Sea h 0) ≤ gvS (c % 2) (c / 2) a1 a2 (Sea h 0)
      · rw [if_pos z1]
        by_cases z2 : gvS (1 - c / 2) (c % 2) a2 a1 (Sea h 0) ≤ gvS (c / 2) (c % 2) a2 a1 (Sea h 0)
        · rw [if_pos z2, bd_some]
          refine ⟨_, rfl, ?_, rfl, hm4⟩
          rw [← bs_up' _ a (show c < 6 by omega), if_pos (show rcS (Sea h 0) a1 a2 c = true from decide_eq_true ⟨z1, z2⟩), q1]
          rfl
        · rw [if_neg z2, bd_some]
          refine ⟨_, rfl, ?_, rfl, hm4⟩
          rw [← bs_up' _ a (show c < 6 by omega), if_neg (show ¬ rcS (Sea h 0) a1 a2 c = true by rw [show rcS (Sea h 0) a1 a2 c = false from decide_eq_false (fun y => z2 y.2)]; simp), q1]
          rfl
      · rw [if_neg z1, bd_some]
        refine ⟨_, rfl, ?_, rfl, hm2⟩
        rw [← bs_up' _ a (show c < 6 by omega), if_neg (show ¬ rcS (Sea h 0) a1 a2 c = true by rw [show rcS (Sea h 0) a1 a2 c = false from decide_eq_false (fun y => z1 y.1)]; simp), q1]
        rfl) (fun s hi => by
      obtain ⟨v, c, m⟩ := s
      obtain ⟨q1, q2, q3⟩ := hi
      dsimp only at q1 q2 q3
      subst q2
      refine ⟨(v, m), ?_, q1, q3⟩
      unfold md_rests_b1
      dsimp only
      rw [if_neg (by omega)])
    obtain ⟨v', m'⟩ := r
    dsimp only at z1 z2
    refine ⟨v, m, v', m', ?_, ?_, by rw [r1, z1], z2.1⟩
    · unfold sf_rests
      rw [c_pair hI w1 w2, bd_some, bI_t g, if_neg n1, e, bd_some]
    · unfold md_rests
      rw [lt_eq, Mf_two hI m0 w1 w2, bd_some, bI_t g, if_neg n1, e', bd_some]
  · have m0 : Mf h (up h 167 0 0) := Mf_self hI
    refine ⟨-2, h, -2, up h 167 0 0, ?_, ?_, rfl, m0.1⟩
    · unfold sf_rests
      rw [c_pair hI w1 w2, bd_some, bI_f g, if_pos n0]
    · unfold md_rests
      rw [lt_eq, Mf_two hI m0 w1 w2, bd_some, bI_f g, if_pos n0]
/-! treaties -/
def trS (S : Sn) (p q : Int) : Bool := decide (gvS 0 0 p q S < gvS 1 1 p q S ∧ gvS 0 0 q p S < gvS 1 1 q p S)
theorem st_treat_c {h m : Hp} (hI : INV h) (hM : Mf h m) : ∃ m', iter FU sf_treaties_b1 (0, 0, m) = some (cnt (h 9 5) (trS (Sea h 0)), m') ∧ Mf h m' := by
  have lP := (INV_l hI).2.2.2.2.2.1
  obtain ⟨sW, sF, _⟩ := Sea_ok hI 0
  have x0 : (0 : Int) ≤ 0 ∧ (0 : Int) ≤ 1 := by omega
  have x1 : (0 : Int) ≤ 1 ∧ (1 : Int) ≤ 1 := by omega
  refine pairs_lp (B2 := sf_treaties_b2) lP (fun z v q m a b c hm => ?_) (fun z v m hm => ?_) (fun v p m a b hm => ?_) (fun v m hm => ?_) hM
  · obtain ⟨m1, e1, hm1⟩ := c_got hI hm (p := z.2.1) (q := q) (by omega) (by omega) x1 x1
    obtain ⟨m2, e2, hm2⟩ := c_got hI hm1 (p := z.2.1) (q := q) (by omega) (by omega) x0 x0
    obtain ⟨m3, e3, hm3⟩ := c_got hI hm2 (p := q) (q := z.2.1) (by omega) (by omega) x1 x1
    obtain ⟨m4, e4, hm4⟩ := c_got hI hm3 (p := q) (q := z.2.1) (by omega) (by omega) x0 x0
    have i1 := gv_in sW sF x1 1 z.2.1 q
    have i2 := gv_in sW sF x0 0 z.2.1 q
    have i3 := gv_in sW sF x1 1 q z.2.1
    have i4 := gv_in sW sF x0 0 q z.2.1
    have eb : sf_treaties_b2 z (v, q, m) = Option.bind (if gvS 0 0 z.2.1 q (Sea h 0) < gvS 1 1 z.2.1 q (Sea h 0) then (if gvS 0 0 q z.2.1 (Sea h 0) < gvS 1 1 q z.2.1 (Sea h 0) then some (v + 1, m4) else some (v, m4)) else some (v, m2)) (fun s12 : Int × Hp => some (.inl (s12.1, q + 1, s12.2))) := by
      simp only [sf_treaties_b2, Mf_9 hm]
      rw [wr_id (by omega), wr_id (by omega), if_pos c, e1, bd_some]
      dsimp only
      rw [e2, bd_some]
      dsimp only
      rw [w32 (show -1000000 ≤ gvS 0 0 z.2.1 q (Sea h 0) ∧ gvS 0 0 z.2.1 q (Sea h 0) ≤ 1000000 by omega), w32 (show -1000000 ≤ gvS 1 1 z.2.1 q (Sea h 0) ∧ gvS 1 1 z.2.1 q (Sea h 0) ≤ 1000000 by omega), e3, bd_some]
      dsimp only
      rw [e4, bd_some]
      dsimp only
      rw [w32 (show -1000000 ≤ gvS 0 0 q z.2.1 (Sea h 0) ∧ gvS 0 0 q z.2.1 (Sea h 0) ≤ 1000000 by omega), w32 (show -1000000 ≤ gvS 1 1 q z.2.1 (Sea h 0) ∧ gvS 1 1 q z.2.1 (Sea h 0) ≤ 1000000 by omega)]
    rw [eb]
    by_cases y1 : gvS 0 0 z.2.1 q (Sea h 0) < gvS 1 1 z.2.1 q (Sea h 0)
    · rw [if_pos y1]
      by_cases y2 : gvS 0 0 q z.2.1 (Sea h 0) < gvS 1 1 q z.2.1 (Sea h 0)
      · rw [if_pos y2, bd_some, if_pos (show trS (Sea h 0) z.2.1 q = true from decide_eq_true ⟨y1, y2⟩)]
        exact ⟨m4, rfl, hm4⟩
      · rw [if_neg y2, bd_some, if_neg (show ¬ trS (Sea h 0) z.2.1 q = true by rw [show trS (Sea h 0) z.2.1 q = false from decide_eq_false (fun y => y2 y.2)]; simp)]
        exact ⟨m4, rfl, hm4⟩
    · rw [if_neg y1, bd_some, if_neg (show ¬ trS (Sea h 0) z.2.1 q = true by rw [show trS (Sea h 0) z.2.1 q = false from decide_eq_false (fun y => y1 y.1)]; simp)]
      exact ⟨m2, rfl, hm2⟩
  · simp only [sf_treaties_b2, Mf_9 hm]
    rw [if_neg (by omega)]
  · simp only [sf_treaties_b1, Mf_9 hm]
    rw [wr_id (by omega), wr_id (by omega), if_pos b]
  · simp only [sf_treaties_b1, Mf_9 hm]
    rw [if_neg (by omega)]
theorem st_treat_m {h m : Hp} (hI : INV h) (hM : Mf h m) : ∃ m', iter FU md_treaties_b1 (0, 0, m) = some (cnt (h 9 5) (trS (Sea h 0)), m') ∧ Mf h m' := by
  have lP := (INV_l hI).2.2.2.2.2.1
  obtain ⟨sW, sF, _⟩ := Sea_ok hI 0
  have x0 : (0 : Int) ≤ 0 ∧ (0 : Int) ≤ 1 := by omega
  have x1 : (0 : Int) ≤ 1 ∧ (1 : Int) ≤ 1 := by omega
  have c2 : ∀ {m : Hp}, Mf h m → m 174 4 = h 9 5 := fun hm => (Mf_n hm).2.2.2.2.1
  refine pairs_lp (B2 := md_treaties_b2) lP (fun z v q m a b c hm => ?_) (fun z v m hm => ?_) (fun v p m a b hm => ?_) (fun v m hm => ?_) hM
  · have ne : q ≠ z.2.1 := by omega
    obtain ⟨m1, e1, hm1⟩ := m_got hI hm (p := z.2.1) (q := q) (by omega) (by omega) x1 x1
    obtain ⟨m2, e2, hm2⟩ := m_got hI hm1 (p := z.2.1) (q := q) (by omega) (by omega) x0 x0
    obtain ⟨m3, e3, hm3⟩ := m_got' hI hm2 (p := z.2.1) (q := q) (by omega) (by omega) x1 x1 ne
    obtain ⟨m4, e4, hm4⟩ := m_got' hI hm3 (p := z.2.1) (q := q) (by omega) (by omega) x0 x0 ne
    have i1 := gv_in sW sF x1 1 z.2.1 q
    have i2 := gv_in sW sF x0 0 z.2.1 q
    have i3 := gv_in sW sF x1 1 q z.2.1
    have i4 := gv_in sW sF x0 0 q z.2.1
    have eb : md_treaties_b2 z (v, q, m) = Option.bind (if gvS 0 0 z.2.1 q (Sea h 0) < gvS 1 1 z.2.1 q (Sea h 0) then (if gvS 0 0 q z.2.1 (Sea h 0) < gvS 1 1 q z.2.1 (Sea h 0) then some (1, m4) else some (0, m4)) else some (0, m2)) (fun s16 : Int × Hp => some (.inl (v + s16.1, q + 1, s16.2))) := by
      unfold md_treaties_b2 md_people
      dsimp only
      rw [c2 hm, bd_some, wr_id (by omega), wr_id (by omega), if_pos c, e1, bd_some]
      dsimp only
      rw [e2, bd_some]
      dsimp only
      rw [w32 (show -1000000 ≤ gvS 0 0 z.2.1 q (Sea h 0) ∧ gvS 0 0 z.2.1 q (Sea h 0) ≤ 1000000 by omega), w32 (show -1000000 ≤ gvS 1 1 z.2.1 q (Sea h 0) ∧ gvS 1 1 z.2.1 q (Sea h 0) ≤ 1000000 by omega), e3, bd_some]
      dsimp only
      rw [e4, bd_some]
      dsimp only
      rw [w32 (show -1000000 ≤ gvS 0 0 q z.2.1 (Sea h 0) ∧ gvS 0 0 q z.2.1 (Sea h 0) ≤ 1000000 by omega), w32 (show -1000000 ≤ gvS 1 1 q z.2.1 (Sea h 0) ∧ gvS 1 1 q z.2.1 (Sea h 0) ≤ 1000000 by omega)]
    rw [eb]
    by_cases y1 : gvS 0 0 z.2.1 q (Sea h 0) < gvS 1 1 z.2.1 q (Sea h 0)
    · rw [if_pos y1]
      by_cases y2 : gvS 0 0 q z.2.1 (Sea h 0) < gvS 1 1 q z.2.1 (Sea h 0)
      · rw [if_pos y2, bd_some, if_pos (show trS (Sea h 0) z.2.1 q = true from decide_eq_true ⟨y1, y2⟩)]
        exact ⟨m4, rfl, hm4⟩
      · rw [if_neg y2, bd_some, if_neg (show ¬ trS (Sea h 0) z.2.1 q = true by rw [show trS (Sea h 0) z.2.1 q = false from decide_eq_false (fun y => y2 y.2)]; simp)]
        exact ⟨m4, by rw [Int.add_zero], hm4⟩
    · rw [if_neg y1, bd_some, if_neg (show ¬ trS (Sea h 0) z.2.1 q = true by rw [show trS (Sea h 0) z.2.1 q = false from decide_eq_false (fun y => y1 y.1)]; simp)]
      exact ⟨m2, by rw [Int.add_zero], hm2⟩
  · unfold md_treaties_b2 md_people
    dsimp only
    rw [c2 hm, bd_some, if_neg (by omega)]
  · unfold md_treaties_b1 md_people
    dsimp only
    rw [c2 hm, bd_some, wr_id (by omega), wr_id (by omega), if_pos b]
  · unfold md_treaties_b1 md_people
    dsimp only
    rw [c2 hm, bd_some, if_neg (by omega)]
theorem st_treaties : St_treaties INV := by
  intro h hI
  have tc := th_cond hI
  have n1 : ¬ wr 1 = 0 := by decide
  have n0 : wr 0 = 0 := rfl
  by_cases g : h 9 0 = 1
  · obtain ⟨m, e, hm⟩ := st_treat_c hI (Mf_rfl hI)
    have m0 : Mf h (up m 167 0 0) := Mf_up hm (by omega) (by omega) (by omega)
    obtain ⟨m', e', hm'⟩ := st_treat_m hI m0
    refine ⟨cnt (h 9 5) (trS (Sea h 0)), m, cnt (h 9 5) (trS (Sea h 0)), m', ?_, ?_, rfl, hm'.1⟩
    · unfold sf_treaties
      rw [if_neg (by rw [tc]; simp [g]), e, bd_some]
    · unfold md_treaties
      rw [lt_eq, Mf_isF hI m0, bd_some, bI_t g, if_neg n1, e', bd_some]
  · have m0 : Mf h (up h 167 0 0) := Mf_self hI
    refine ⟨-2, h, -2, up h 167 0 0, ?_, ?_, rfl, m0.1⟩
    · unfold sf_treaties; rw [if_pos (by rw [tc]; exact g)]
    · unfold md_treaties
      rw [lt_eq, Mf_isF hI m0, bd_some, bI_f g, if_pos n0]
/-! lie -/
def fsN (c : Int → Bool) : Nat → Int
  | 0 => -1
  | n + 1 => if fsN c n ≠ -1 then fsN c n else if c (n : Int) = true then (n : Int) else -1
def fsI (c : Int → Bool) (n : Int) : Int := fsN c n.toNat
theorem fsN_F (c : Int → Bool) : ∀ n : Nat, Fst c 0 (n : Int) (fsN c n) := by
  intro n
  induction n with
  | zero => exact Or.inr ⟨rfl, fun j a b => by omega⟩
  | succ n ih =>
    unfold fsN
    rcases ih with ⟨a1, a2, a3, a4⟩ | ⟨a1, a2⟩
    · rw [if_pos (by omega)]
      exact Or.inl ⟨a1, by omega, a3, a4⟩
    · rw [if_neg (by omega)]
      by_cases z : c (n : Int) = true
      · rw [if_pos z]
        exact Or.inl ⟨by omega, by omega, z, fun j x y => a2 j x (by omega)⟩
      · rw [if_neg z]
        refine Or.inr ⟨rfl, fun j x y => ?_⟩
        by_cases e : j = (n : Int)
        · rw [e]; simpa using z
        · exact a2 j x (by omega)
theorem fs_eq {c : Int → Bool} {n r : Int} (hn : 0 ≤ n) (h : Fst c 0 n r) : r = fsI c n := by
  have := fsN_F c n.toNat
  rw [show ((n.toNat : Nat) : Int) = n by omega] at this
  exact Fst_u (by omega) h this
def lcS (S : Sn) (p k : Int) : Bool := opS S p k && decide (shS S p < shS (hvS p (fun j => j == k) S) p)
theorem hv_in {S : Sn} (hW : WF S) (hF : Full S) (p : Int) (c : Int → Bool) (q : Int) : -63 ≤ shS (hvS p c S) q ∧ shS (hvS p c S) q ≤ 9 := shS_in (wH_ok (fun r j => if r = p then (sH S p j || c j) else sH S r j) hW hF).1 q
theorem c_least {h m : Hp} (hI : INV h) (hM : Mf h m) {p : Int} (hp : 0 ≤ p ∧ p < h 9 5) : ∃ m', sf_leastLie m p = some (fsI (lcS (Sea h 0) p) (h 9 1), m') ∧ Mf h m' := by
  obtain ⟨sW, sF, eK, eL, eP, eN⟩ := Sea_ok hI 0
  have lP := (INV_l hI).2.2.2.2.2.1
  have lK := (INV_l hI).2.1
  obtain ⟨F, hR, hs⟩ := c_rdy hM
  have e0 : sf_seasonAt m 0 = some (63, F) := hs 0 (by omega) (by omega)
  have wp : wr p = p := wr_id (by omega)
  have o4 := (rdy_c0 hR).2.1 p hp.1 (by omega)
  obtain ⟨r, e, q⟩ := lp_ex (body := sf_leastLie_b1 p (63, F)) (s0 := (0, F)) (Q := fun r => (∃ m', r = .inl m' ∧ Mf h m' ∧ Fst (lcS (Sea h 0) p) 0 (h 9 1) (-1)) ∨ (∃ k m', r = .inr (k, m') ∧ Mf h m' ∧ Fst (lcS (Sea h 0) p) 0 (h 9 1) k)) (fun i s => s.1 = i ∧ Rdy h s.2 ∧ ∀ j, 0 ≤ j → j < i → lcS (Sea h 0) p j = false) (h 9 1) lK.1 (by omega) ⟨rfl, hR, fun j a b => by omega⟩ (fun i s a b hi => by
    obtain ⟨c, g⟩ := s
    obtain ⟨q1, q2, q3⟩ := hi
    dsimp only at q1 q2 q3
    subst q1
    have ext : ∀ {x : Bool}, lcS (Sea h 0) p c = false → ∀ j, 0 ≤ j → j < c + 1 → lcS (Sea h 0) p j = false := by
      intro _ z j x y
      by_cases ej : j = c
      · rw [ej]; exact z
      · exact q3 j x (by omega)
    have hh := c_holds g (opS (Sea h 0) p) (k := c) (by omega)
    cases zo : opS (Sea h 0) p c
    · refine Or.inl ⟨(c + 1, g), ?_, rfl, q2, ext (x := true) (by unfold lcS; rw [zo]; rfl)⟩
      simp only [sf_leastLie_b1, Mf_9 q2.1]
      rw [wr_id (by omega), wr_id (by omega), if_pos b, wp, show F (63 + 4) p = bs (opS (Sea h 0) p) from o4, hh, bd_some, zo, if_pos (show wr (bt false 1) = 0 from rfl)]
    · obtain ⟨m', e1, k1, hR1⟩ := c_ifHid hI q2.1 hp (fun j => j == c)
      have x1 := c_share k1 (p := p) (show sP (Sea h 0) ≤ 6 by omega) (show 0 ≤ p ∧ p < sP (Sea h 0) by omega)
      have x2 := c_share (rdy_c0 hR1) (p := p) (by omega) (by omega)
      have i1 := hv_in sW sF p (fun j => j == c) p
      have i2 := shS_in sW p
      have eb : sf_leastLie_b1 p (63, F) (c, g) = if shS (Sea h 0) p < shS (hvS p (fun j => j == c) (Sea h 0)) p then some (.inr (.inr (c, m'))) else some (.inl (c + 1, m')) := by
        simp only [sf_leastLie_b1, Mf_9 q2.1]
        rw [wr_id (by omega), wr_id (by omega), if_pos b, wp, show F (63 + 4) p = bs (opS (Sea h 0) p) from o4, hh, bd_some, zo, if_neg (by decide), bs_shl c a (by omega), e1, bd_some]
        dsimp only
        rw [chk_t sh19, x1, bd_some, x2, bd_some, w32 (show -1000000 ≤ shS (Sea h 0) p ∧ shS (Sea h 0) p ≤ 1000000 by omega), w32 (show -1000000 ≤ shS (hvS p (fun j => j == c) (Sea h 0)) p ∧ shS (hvS p (fun j => j == c) (Sea h 0)) p ≤ 1000000 by omega)]
      by_cases z : shS (Sea h 0) p < shS (hvS p (fun j => j == c) (Sea h 0)) p
      · refine Or.inr ⟨.inr (c, m'), by rw [eb, if_pos z], Or.inr ⟨c, m', rfl, hR1.1, Or.inl ⟨a, b, ?_, q3⟩⟩⟩
        unfold lcS
        rw [zo, decide_eq_true z]; rfl
      · refine Or.inl ⟨(c + 1, m'), by rw [eb, if_neg z], rfl, hR1, ext (x := true) ?_⟩
        unfold lcS
        rw [zo, decide_eq_false z]; rfl) (fun s hi => by
    obtain ⟨c, g⟩ := s
    obtain ⟨q1, q2, q3⟩ := hi
    dsimp only at q1 q2 q3
    subst q1
    refine ⟨.inl g, ?_, Or.inl ⟨g, rfl, q2.1, Or.inr ⟨rfl, q3⟩⟩⟩
    simp only [sf_leastLie_b1, Mf_9 q2.1]
    rw [if_neg (by omega)])
  have pre : ∀ X, iter FU (sf_leastLie_b1 p (63, F)) (0, F) = some X → sf_leastLie m p = (match X with | .inl s13 => some ((-1, s13)) | .inr x => some (x)) := by
    intro X eX
    unfold sf_leastLie
    rw [e0, bd_some]
    dsimp only
    rw [chk_t sh63, wp, chk_t (by omega), eX, bd_some]
    cases X <;> rfl
  rcases q with ⟨m', z1, z2, z3⟩ | ⟨k, m', z1, z2, z3⟩
  · refine ⟨m', ?_, z2⟩
    rw [pre _ e, z1, ← fs_eq lK.1 z3]
  · refine ⟨m', ?_, z2⟩
    rw [pre _ e, z1, ← fs_eq lK.1 z3]
theorem hv_0 (p : Int) (S : Sn) : hvS p (fun _ => false) S = S := by
  have e : (fun r j => if r = p then (sH S p j || false) else sH S r j) = sH S := by
    funext r j
    by_cases z : r = p
    · rw [if_pos z, z, Bool.or_false]
    · rw [if_neg z]
  unfold hvS wH
  rw [e]
  rfl
theorem m_hid0 {h t : Hp} (hI : INV h) (hM : Mf h t) {p : Int} (hp : 0 ≤ p ∧ p < h 9 5) : ∃ u, md_hasHiding t p 0 = some (shS (Sea h 0) p, u) ∧ MA u (Sea h 0) ∧ Mf h u := by
  obtain ⟨u, e, k, mu⟩ := m_hid hI hM hp (fun _ => false)
  rw [bs_zero, hv_0] at e
  rw [hv_0] at k
  exact ⟨u, e, k, mu⟩
theorem m_lieO {h m : Hp} (hI : INV h) (hM : Mf h m) {p : Int} (hp : 0 ≤ p ∧ p < h 9 5) : ∃ m', md_lieOf m p = some (fsI (lcS (Sea h 0) p) (h 9 1), m') ∧ Mf h m' := by
  obtain ⟨sW, sF, eK, eL, eP, eN⟩ := Sea_ok hI 0
  have lP := (INV_l hI).2.2.2.2.2.1
  have lK := (INV_l hI).2.1
  obtain ⟨u, e1, kA, mu⟩ := m_hid0 hI hM hp
  have e2 := m_open sW kA.1 (p := p) (by omega)
  have c0 : ∀ {m : Hp}, Mf h m → m 174 0 = h 9 1 := fun hm => (Mf_n hm).1
  obtain ⟨r, e, q⟩ := lp_ex (body := md_lieOf_b1 p (shS (Sea h 0) p, u) (bs (opS (Sea h 0) p))) (s0 := (0, u)) (Q := fun r => (∃ m', r = .inl m' ∧ Mf h m' ∧ Fst (lcS (Sea h 0) p) 0 (h 9 1) (-1)) ∨ (∃ k m', r = .inr (k, m') ∧ Mf h m' ∧ Fst (lcS (Sea h 0) p) 0 (h 9 1) k)) (fun i s => s.1 = i ∧ Mf h s.2 ∧ ∀ j, 0 ≤ j → j < i → lcS (Sea h 0) p j = false) (h 9 1) lK.1 (by omega) ⟨rfl, mu, fun j a b => by omega⟩ (fun i s a b hi => by
    obtain ⟨c, g⟩ := s
    obtain ⟨q1, q2, q3⟩ := hi
    dsimp only at q1 q2 q3
    subst q1
    have ext : lcS (Sea h 0) p c = false → ∀ j, 0 ≤ j → j < c + 1 → lcS (Sea h 0) p j = false := by
      intro z j x y
      by_cases ej : j = c
      · rw [ej]; exact z
      · exact q3 j x (by omega)
    have hh := m_isBit g (opS (Sea h 0) p) (k := c) (by omega)
    cases zo : opS (Sea h 0) p c
    · refine Or.inl ⟨(c + 1, g), ?_, rfl, q2, ext (by unfold lcS; rw [zo]; rfl)⟩
      unfold md_lieOf_b1 md_kindsAll
      dsimp only
      rw [c0 q2, bd_some, wr_id (by omega), wr_id (by omega), if_pos b, hh, bd_some, zo, if_pos (show wr (bt false 1) = 0 from rfl)]
    · obtain ⟨m', x1, k1, hR1⟩ := m_hid hI q2 hp (fun j => j == c)
      have i1 := hv_in sW sF p (fun j => j == c) p
      have i2 := shS_in sW p
      have eb : md_lieOf_b1 p (shS (Sea h 0) p, u) (bs (opS (Sea h 0) p)) (c, g) = if shS (Sea h 0) p < shS (hvS p (fun j => j == c) (Sea h 0)) p then some (.inr (.inr (c, m'))) else some (.inl (c + 1, m')) := by
        unfold md_lieOf_b1 md_kindsAll
        dsimp only
        rw [c0 q2, bd_some, wr_id (by omega), wr_id (by omega), if_pos b, hh, bd_some, zo, if_neg (by decide), bs_shl c a (by omega), x1, bd_some]
        dsimp only
        rw [w32 (show -1000000 ≤ shS (Sea h 0) p ∧ shS (Sea h 0) p ≤ 1000000 by omega), w32 (show -1000000 ≤ shS (hvS p (fun j => j == c) (Sea h 0)) p ∧ shS (hvS p (fun j => j == c) (Sea h 0)) p ≤ 1000000 by omega)]
      by_cases z : shS (Sea h 0) p < shS (hvS p (fun j => j == c) (Sea h 0)) p
      · refine Or.inr ⟨.inr (c, m'), by rw [eb, if_pos z], Or.inr ⟨c, m', rfl, hR1, Or.inl ⟨a, b, ?_, q3⟩⟩⟩
        unfold lcS
        rw [zo, decide_eq_true z]; rfl
      · refine Or.inl ⟨(c + 1, m'), by rw [eb, if_neg z], rfl, hR1, ext ?_⟩
        unfold lcS
        rw [zo, decide_eq_false z]; rfl) (fun s hi => by
    obtain ⟨c, g⟩ := s
    obtain ⟨q1, q2, q3⟩ := hi
    dsimp only at q1 q2 q3
    subst q1
    refine ⟨.inl g, ?_, Or.inl ⟨g, rfl, q2, Or.inr ⟨rfl, q3⟩⟩⟩
    unfold md_lieOf_b1 md_kindsAll
    dsimp only
    rw [c0 q2, bd_some, if_neg (by omega)])
  rcases q with ⟨m', z1, z2, z3⟩ | ⟨k, m', z1, z2, z3⟩
  · refine ⟨m', ?_, z2⟩
    unfold md_lieOf
    rw [e1, bd_some]
    dsimp only
    rw [e2, bd_some, e, bd_some, z1, ← fs_eq lK.1 z3]
  · refine ⟨m', ?_, z2⟩
    unfold md_lieOf
    rw [e1, bd_some]
    dsimp only
    rw [e2, bd_some, e, bd_some, z1, ← fs_eq lK.1 z3]
theorem st_lie : St_lie INV := by
  intro h hI a1 w1
  have n1 : ¬ wr 1 = 0 := by decide
  have n0 : wr 0 = 0 := rfl
  by_cases g : 0 ≤ a1 ∧ a1 < h 9 5
  · obtain ⟨m, e, hm⟩ := c_least hI (Mf_rfl hI) g
    have m0 : Mf h (up m 167 0 0) := Mf_up hm (by omega) (by omega) (by omega)
    obtain ⟨m', e', hm'⟩ := m_lieO hI m0 g
    refine ⟨fsI (lcS (Sea h 0) a1) (h 9 1), m, fsI (lcS (Sea h 0) a1) (h 9 1), m', ?_, ?_, rfl, hm'.1⟩
    · unfold sf_lie
      rw [c_isP hI w1, bd_some, bI_t g, if_neg n1, e, bd_some, bd_some]
    · unfold md_lie
      rw [lt_eq, Mf_isP hI m0 w1, bd_some, bI_t g, if_neg n1, e', bd_some, bd_some]
  · have m0 : Mf h (up h 167 0 0) := Mf_self hI
    refine ⟨-2, h, -2, up h 167 0 0, ?_, ?_, rfl, m0.1⟩
    · unfold sf_lie
      rw [c_isP hI w1, bd_some, bI_f g, if_pos n0, bd_some]
    · unfold md_lie
      rw [lt_eq, Mf_isP hI m0 w1, bd_some, bI_f g, if_pos n0, bd_some]
theorem fsI_in (c : Int → Bool) {n : Int} (hn : 0 ≤ n) : -1 ≤ fsI c n ∧ fsI c n < n ∨ fsI c n = -1 := by
  have := fsN_F c n.toNat
  rw [show ((n.toNat : Nat) : Int) = n by omega] at this
  rcases this with ⟨a, b, _⟩ | ⟨a, _⟩
  · left; show -1 ≤ fsN c n.toNat ∧ fsN c n.toNat < n; omega
  · right; exact a
theorem st_liars : St_liars INV := by
  intro h hI
  have tc := th_cond hI
  have n1 : ¬ wr 1 = 0 := by decide
  have n0 : wr 0 = 0 := rfl
  have lP := (INV_l hI).2.2.2.2.2.1
  have lK := (INV_l hI).2.1
  have wf : ∀ p, wr (fsI (lcS (Sea h 0) p) (h 9 1)) = fsI (lcS (Sea h 0) p) (h 9 1) := fun p => w32 (by have := fsI_in (lcS (Sea h 0) p) lK.1; omega)
  by_cases g : h 9 0 = 1
  · obtain ⟨r, e, r1, r2⟩ := lp (body := sf_liars_b1) (s0 := (0, 0, h)) (Q := fun r => r.1 = bs (upto (h 9 5) (fun p => decide (fsI (lcS (Sea h 0) p) (h 9 1) ≠ -1))) ∧ Mf h r.2) (fun i s => s.1 = bs (upto i (fun p => decide (fsI (lcS (Sea h 0) p) (h 9 1) ≠ -1))) ∧ s.2.1 = i ∧ Mf h s.2.2) (h 9 5) lP.1 (by omega) ⟨(upto0 _).symm, rfl, Mf_rfl hI⟩ (fun i s a b hi => by
      obtain ⟨v, c, m⟩ := s
      obtain ⟨q1, q2, q3⟩ := hi
      dsimp only at q1 q2 q3
      subst q2
      obtain ⟨m', e1, hm⟩ := c_least hI q3 (p := c) ⟨a, b⟩
      refine ⟨(bs (upto (c + 1) (fun p => decide (fsI (lcS (Sea h 0) p) (h 9 1) ≠ -1))), c + 1, m'), ?_, rfl, rfl, hm⟩
      rw [← bs_up _ a (show c < 6 by omega), ← q1]
      simp only [sf_liars_b1, Mf_9 q3]
      rw [wr_id (by omega), wr_id (by omega), if_pos b, e1, bd_some]
      dsimp only
      rw [wf, show wr (-1) = -1 from rfl]
      by_cases z : fsI (lcS (Sea h 0) c) (h 9 1) = -1
      · rw [if_pos z, if_neg (by simp [z])]
      · rw [if_neg z, if_pos (by simp [z])]) (fun s hi => by
      obtain ⟨v, c, m⟩ := s
      obtain ⟨q1, q2, q3⟩ := hi
      dsimp only at q1 q2 q3
      subst q2
      refine ⟨(v, m), ?_, q1, q3⟩
      simp only [sf_liars_b1, Mf_9 q3]
      rw [if_neg (by omega)])
    obtain ⟨v, m⟩ := r
    dsimp only at r1 r2
    have m0 : Mf h (up m 167 0 0) := Mf_up r2 (by omega) (by omega) (by omega)
    obtain ⟨r, e', z1, z2⟩ := lp (body := md_liars_b1) (s0 := (0, 0, up m 167 0 0)) (Q := fun r => r.1 = bs (upto (h 9 5) (fun p => decide (fsI (lcS (Sea h 0) p) (h 9 1) ≠ -1))) ∧ Mf h r.2) (fun i s => s.1 = bs (upto i (fun p => decide (fsI (lcS (Sea h 0) p) (h 9 1) ≠ -1))) ∧ s.2.1 = i ∧ Mf h s.2.2) (h 9 5) lP.1 (by omega) ⟨(upto0 _).symm, rfl, m0⟩ (fun i s a b hi => by
      obtain ⟨v, c, m⟩ := s
      obtain ⟨q1, q2, q3⟩ := hi
      dsimp only at q1 q2 q3
      subst q2
      have c2 : m 174 4 = h 9 5 := (Mf_n q3).2.2.2.2.1
      obtain ⟨m', e1, hm⟩ := m_lieO hI q3 (p := c) ⟨a, b⟩
      refine ⟨(bs (upto (c + 1) (fun p => decide (fsI (lcS (Sea h 0) p) (h 9 1) ≠ -1))), c + 1, m'), ?_, rfl, rfl, hm⟩
      rw [← bs_up' _ a (show c < 6 by omega), ← q1]
      unfold md_liars_b1 md_people
      dsimp only
      rw [c2, bd_some, wr_id (by omega), wr_id (by omega), if_pos b, e1, bd_some]
      dsimp only
      rw [wf, show wr (-1) = -1 from rfl]
      by_cases z : fsI (lcS (Sea h 0) c) (h 9 1) = -1
      · rw [if_pos z, if_neg (by simp [z])]
      · rw [if_neg z, if_pos (by simp [z])]) (fun s hi => by
      obtain ⟨v, c, m⟩ := s
      obtain ⟨q1, q2, q3⟩ := hi
      dsimp only at q1 q2 q3
      subst q2
      have c2 : m 174 4 = h 9 5 := (Mf_n q3).2.2.2.2.1
      refine ⟨(v, m), ?_, q1, q3⟩
      unfold md_liars_b1 md_people
      dsimp only
      rw [c2, bd_some, if_neg (by omega)])
    obtain ⟨v', m'⟩ := r
    dsimp only at z1 z2
    refine ⟨v, m, v', m', ?_, ?_, by rw [r1, z1], z2.1⟩
    · unfold sf_liars
      rw [if_neg (by rw [tc]; simp [g]), e, bd_some]
    · unfold md_liars
      rw [lt_eq, Mf_isF hI m0, bd_some, bI_t g, if_neg n1, e', bd_some]
  · have m0 : Mf h (up h 167 0 0) := Mf_self hI
    refine ⟨-2, h, -2, up h 167 0 0, ?_, ?_, rfl, m0.1⟩
    · unfold sf_liars; rw [if_pos (by rw [tc]; exact g)]
    · unfold md_liars
      rw [lt_eq, Mf_isF hI m0, bd_some, bI_f g, if_pos n0]
