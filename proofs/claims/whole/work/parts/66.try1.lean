/-! Layer 2: other neighbours, trades -/
theorem al_op {S : Sn} {q : Int} (hq : q ≠ -1) : alS S q = opS S q := if_neg hq
theorem m_likedU {u : Hp} {S : Sn} (hW : WF S) (hM : MP u S) {p q : Int} (hp : 0 ≤ p ∧ p < sP S) (hq : 0 ≤ q) : md_likedOf u p (bs (opS S q)) = some (guS S p q) := by
  have e := al_op (S := S) (show q ≠ -1 by omega)
  have := m_liked hW hM (p := p) (c := opS S q) hp (fun k x _ => by rw [← e]; exact alS_lt hW _ x)
  rw [this]; unfold guS; rw [e]
theorem st_ahead : St_ahead INV := by
  intro h hI a1 a2 w1 w2
  have n1 : ¬ wr 1 = 0 := by decide
  have n0 : wr 0 = 0 := rfl
  have lP := (INV_l hI).2.2.2.2.2.1.2
  by_cases g : (0 ≤ a1 ∧ a1 < h 9 5) ∧ (0 ≤ a2 ∧ a2 < h 9 5) ∧ a1 ≠ a2
  · obtain ⟨sW, sF, eK, eL, eP, eN⟩ := Sea_ok hI 0
    obtain ⟨F, hR, hs⟩ := c_rdy (Mf_rfl hI)
    have e0 : sf_seasonAt h 0 = some (63, F) := hs 0 (by omega) (by omega)
    have ca := rdy_c0 hR
    have m0 : Mf h (up F 167 0 0) := Mf_up hR.1 (by omega) (by omega) (by omega)
    obtain ⟨u, et, kB, kA, mu⟩ := Mf_first m0
    refine ⟨guS (Sea h 0) a1 a2, F, guS (Sea h 0) a1 a2, u, ?_, ?_, rfl, mu.1⟩
    · unfold sf_ahead
      rw [c_pair hI w1 w2, bd_some, bI_t g, if_neg n1, e0, bd_some]
      dsimp only
      rw [chk_t sh63, c_gu sW ca.1 ca.2.1 (by omega) (by omega), bd_some, bd_some]
    · unfold md_ahead
      rw [lt_eq, Mf_two hI m0 w1 w2, bd_some, bI_t g, if_neg n1, et, bd_some, m_open sW kA.1 (p := a2) (by omega), bd_some, m_likedU sW kA.1 (by omega) (by omega), bd_some]
  · have m0 : Mf h (up h 167 0 0) := Mf_self hI
    refine ⟨-2, h, -2, up h 167 0 0, ?_, ?_, rfl, m0.1⟩
    · unfold sf_ahead
      rw [c_pair hI w1 w2, bd_some, bI_f g, if_pos n0, bd_some]
    · unfold md_ahead
      rw [lt_eq, Mf_two hI m0 w1 w2, bd_some, bI_f g, if_pos n0]
def mtN (S : Sn) (p : Int) : Nat → Int × Int
  | 0 => (-1, 0)
  | n + 1 => if (n : Int) = p then mtN S p n else if (mtN S p n).1 = -1 ∨ (mtN S p n).2 < taS S p (guS S p (n : Int)) then ((n : Int), taS S p (guS S p (n : Int))) else mtN S p n
def mtI (S : Sn) (p i : Int) : Int × Int := mtN S p i.toNat
theorem mtI_succ (S : Sn) (p : Int) {i : Int} (hi : 0 ≤ i) : mtI S p (i + 1) = if i = p then mtI S p i else if (mtI S p i).1 = -1 ∨ (mtI S p i).2 < taS S p (guS S p i) then (i, taS S p (guS S p i)) else mtI S p i := by
  unfold mtI
  have e : (i + 1).toNat = i.toNat + 1 := by omega
  have e2 : ((i.toNat : Nat) : Int) = i := by omega
  rw [e, mtN, e2]
theorem mtI_in {S : Sn} (hW : WF S) (p : Int) {n : Int} (hn : 0 ≤ n) : (-1 ≤ (mtI S p n).1 ∧ (mtI S p n).1 < n) ∧ (-9 ≤ (mtI S p n).2 ∧ (mtI S p n).2 ≤ 9) :=
  ind_to (P := fun i => (-1 ≤ (mtI S p i).1 ∧ (mtI S p i).1 < i) ∧ (-9 ≤ (mtI S p i).2 ∧ (mtI S p i).2 ≤ 9)) (n := n) (by show (-1 ≤ (-1 : Int) ∧ (-1 : Int) < 0) ∧ (-9 ≤ (0 : Int) ∧ (0 : Int) ≤ 9); omega) (fun i a b d => by
    have := taS_in hW p (guS S p i)
    rw [mtI_succ S p a]
    split
    · omega
    · split
      · dsimp only; omega
      · omega) n hn (by omega)
theorem c_match {F : Hp} {S : Sn} (hW : WF S) (ca : CA F 63 S) (h9 : F 9 5 = sP S) {p : Int} (hp : 0 ≤ p ∧ p < sP S) : iter FU (sf_match_b1 p (63, F)) (-1, 0, 0) = some (mtI S p (sP S)).1 := by
  have hP := hW.2.2.1
  have wp : wr p = p := wr_id (by omega)
  exact lp_fn (body := sf_match_b1 p (63, F)) (s0 := (-1, 0, 0)) (fun i => ((mtI S p i).1, (mtI S p i).2, i)) (sP S) (mtI S p (sP S)).1 (by omega) (by omega) rfl (fun i a b => by
    have hin := mtI_in hW p a
    have ht := taS_in hW p (guS S p i)
    rw [mtI_succ S p a]
    have e1 := c_gu hW ca.1 ca.2.1 (p := p) (who := i) (by omega) (by omega)
    have e2 := c_ta ca.1 (p := p) (k := guS S p i) (by omega) (guS_in S p i)
    generalize mtI S p i = z at hin ⊢
    obtain ⟨f, w⟩ := z
    dsimp only at hin ⊢
    simp only [sf_match_b1, h9]
    rw [e1, bd_some, e2, bd_some, wp, wr_id (show -2147483648 ≤ i ∧ i < 2147483648 by omega), wr_id (show -2147483648 ≤ sP S ∧ sP S < 2147483648 by omega), wr_id (show -2147483648 ≤ f ∧ f < 2147483648 by omega), wr_id (show -2147483648 ≤ w ∧ w < 2147483648 by omega), wr_id (show -2147483648 ≤ taS S p (guS S p i) ∧ taS S p (guS S p i) < 2147483648 by omega), show wr (-1) = -1 from rfl, if_pos b]
    by_cases z1 : i = p
    · rw [if_pos z1, if_pos z1, bd_some]
    · rw [if_neg z1, if_neg z1]
      by_cases z2 : f = -1
      · rw [if_pos z2, if_pos (Or.inl z2), bd_some]
      · rw [if_neg z2]
        by_cases z3 : w < taS S p (guS S p i)
        · rw [if_pos z3, if_pos (Or.inr z3), bd_some]
        · rw [if_neg z3, if_neg (by omega), bd_some]) (by
    simp only [sf_match_b1, h9]
    rw [if_neg (by omega)])
theorem m_match {u : Hp} {S : Sn} (hW : WF S) (kA : MA u S) {p : Int} (hp : 0 ≤ p ∧ p < sP S) : iter FU (md_match_b1 p u) (-1, 0, 0) = some (mtI S p (sP S)).1 := by
  have hP := hW.2.2.1
  have wp : wr p = p := wr_id (by omega)
  have c2 := kA.1.2.2.1
  exact lp_fn (body := md_match_b1 p u) (s0 := (-1, 0, 0)) (fun i => ((mtI S p i).1, (mtI S p i).2, i)) (sP S) (mtI S p (sP S)).1 (by omega) (by omega) rfl (fun i a b => by
    have hin := mtI_in hW p a
    have ht := taS_in hW p (guS S p i)
    have hg := guS_in S p i
    rw [mtI_succ S p a]
    have e1 := m_open hW kA.1 (p := i) ⟨a, b⟩
    have e2 := m_likedU hW kA.1 hp a
    have e3 : (if guS S p i = -1 then some (0 : Int) else Option.bind (md_tasteOf u p (guS S p i)) (fun r12 => some r12)) = some (taS S p (guS S p i)) := by
      by_cases z : guS S p i = -1
      · rw [if_pos z, z]; rfl
      · rw [if_neg z, m_ta kA.1 hP.2 hp (by omega), bd_some, taS_pos z]
    generalize mtI S p i = z at hin ⊢
    obtain ⟨f, w⟩ := z
    dsimp only at hin ⊢
    unfold md_match_b1 md_people
    rw [c2, bd_some]
    dsimp only
    rw [wp, wr_id (show -2147483648 ≤ i ∧ i < 2147483648 by omega), wr_id (show -2147483648 ≤ sP S ∧ sP S < 2147483648 by omega), if_pos b]
    by_cases z1 : i = p
    · rw [if_pos z1, if_pos z1, bd_some]
    · rw [if_neg z1, if_neg z1, e1, bd_some, e2, bd_some, wr_id (show -2147483648 ≤ guS S p i ∧ guS S p i < 2147483648 by omega), show wr (-1) = -1 from rfl, e3, bd_some, wr_id (show -2147483648 ≤ f ∧ f < 2147483648 by omega), wr_id (show -2147483648 ≤ w ∧ w < 2147483648 by omega), wr_id (show -2147483648 ≤ taS S p (guS S p i) ∧ taS S p (guS S p i) < 2147483648 by omega)]
      by_cases z2 : f = -1
      · rw [if_pos z2, if_pos (Or.inl z2), bd_some]
      · rw [if_neg z2]
        by_cases z3 : w < taS S p (guS S p i)
        · rw [if_neg (by omega), if_pos (Or.inr z3), bd_some]
        · rw [if_pos (by omega), if_neg (by omega), bd_some]) (by
    unfold md_match_b1 md_people
    rw [c2, bd_some]
    dsimp only
    rw [if_neg (by omega)])
theorem st_match : St_match INV := by
  intro h hI a1 w1
  have n1 : ¬ wr 1 = 0 := by decide
  have n0 : wr 0 = 0 := rfl
  have lP := (INV_l hI).2.2.2.2.2.1.2
  by_cases g : 0 ≤ a1 ∧ a1 < h 9 5
  · obtain ⟨sW, sF, eK, eL, eP, eN⟩ := Sea_ok hI 0
    obtain ⟨F, hR, hs⟩ := c_rdy (Mf_rfl hI)
    have e0 : sf_seasonAt h 0 = some (63, F) := hs 0 (by omega) (by omega)
    have ca := rdy_c0 hR
    have m0 : Mf h (up F 167 0 0) := Mf_up hR.1 (by omega) (by omega) (by omega)
    obtain ⟨u, et, kB, kA, mu⟩ := Mf_first m0
    refine ⟨(mtI (Sea h 0) a1 (sP (Sea h 0))).1, F, (mtI (Sea h 0) a1 (sP (Sea h 0))).1, u, ?_, ?_, rfl, mu.1⟩
    · unfold sf_match
      rw [c_isP hI w1, bd_some, bI_t g, if_neg n1, e0, bd_some]
      dsimp only
      rw [chk_t sh63, c_match sW ca (by rw [Mf_9 hR.1, eP]) (by omega), bd_some]
    · unfold md_match
      rw [lt_eq, Mf_isP hI m0 w1, bd_some, bI_t g, if_neg n1, et, bd_some, m_match sW kA (by omega), bd_some]
  · have m0 : Mf h (up h 167 0 0) := Mf_self hI
    refine ⟨-2, h, -2, up h 167 0 0, ?_, ?_, rfl, m0.1⟩
    · unfold sf_match
      rw [c_isP hI w1, bd_some, bI_f g, if_pos n0]
    · unfold md_match
      rw [lt_eq, Mf_isP hI m0 w1, bd_some, bI_f g, if_pos n0]
/-! stay -/
theorem swS_self {S : Sn} (hF : Full S) {p : Int} (hp : 0 ≤ p ∧ p < sP S) : swS p p S = S := by
  have e1 : (fun x => if x = sQ S p then p else if x = sQ S p then p else sR S x) = sR S := by
    funext x
    by_cases z : x = sQ S p
    · rw [if_pos z, z]; exact (hF.2 p hp.1 hp.2).2.2.symm
    · rw [if_neg z, if_neg z]
  have e2 : (fun r => if r = p then sQ S p else if r = p then sQ S p else sQ S r) = sQ S := by
    funext r
    by_cases z : r = p
    · rw [if_pos z, z]
    · rw [if_neg z, if_neg z]
  unfold swS
  rw [e1, e2]
  rfl
def syN (S : Sn) (p : Int) : Nat → Int × Int
  | 0 => (0, -100000)
  | n + 1 => if (syN S p n).2 < shS (swS p (sR S (n : Int)) S) p then ((n : Int), shS (swS p (sR S (n : Int)) S) p) else syN S p n
def syI (S : Sn) (p i : Int) : Int × Int := syN S p i.toNat
theorem syI_succ (S : Sn) (p : Int) {i : Int} (hi : 0 ≤ i) : syI S p (i + 1) = if (syI S p i).2 < shS (swS p (sR S i) S) p then (i, shS (swS p (sR S i) S) p) else syI S p i := by
  unfold syI
  have e : (i + 1).toNat = i.toNat + 1 := by omega
  have e2 : ((i.toNat : Nat) : Int) = i := by omega
  rw [e, syN, e2]
theorem sw_in {S : Sn} (hW : WF S) (hF : Full S) {p x : Int} (hp : 0 ≤ p ∧ p < sP S) (hx : 0 ≤ x ∧ x < sP S) : -63 ≤ shS (swS p x S) p ∧ shS (swS p x S) p ≤ 9 := shS_in (swS_ok hW hF hp hx).1 p
theorem syI_in {S : Sn} (hW : WF S) (hF : Full S) {p : Int} (hp : 0 ≤ p ∧ p < sP S) : ∀ i, 0 ≤ i → i ≤ sP S → -100000 ≤ (syI S p i).2 ∧ (syI S p i).2 ≤ 9 :=
  ind_to (P := fun i => -100000 ≤ (syI S p i).2 ∧ (syI S p i).2 ≤ 9) (n := sP S) (by show -100000 ≤ (-100000 : Int) ∧ (-100000 : Int) ≤ 9; omega) (fun i a b d => by
    have hr := hW.2.2.2.2.2 i a (by rw [hF.1]; exact b)
    have := sw_in hW hF hp (x := sR S i) ⟨hr.1, hr.2.1⟩
    rw [syI_succ S p a]
    split
    · dsimp only; omega
    · exact d)
theorem st_stay : St_stay INV := by
  intro h hI a1 w1
  have n1 : ¬ wr 1 = 0 := by decide
  have n0 : wr 0 = 0 := rfl
  have lP := (INV_l hI).2.2.2.2.2.1.2
  by_cases g : 0 ≤ a1 ∧ a1 < h 9 5
  · obtain ⟨sW, sF, eK, eL, eP, eN⟩ := Sea_ok hI 0
    have hR := sW.2.2.2.2.2
    have sin := syI_in sW sF (p := a1) (by omega)
    obtain ⟨r, e, r1, r2⟩ := lp (body := sf_stay_b1 a1) (s0 := (0, 0, 0, h)) (Q := fun r => r.1 = (syI (Sea h 0) a1 (h 9 5)).1 ∧ Mf h r.2) (fun i s => s.2.2.1 = i ∧ Mf h s.2.2.2 ∧ (-63 ≤ s.2.1 ∧ s.2.1 ≤ 9) ∧ (i = 0 ∨ (s.1 = (syI (Sea h 0) a1 i).1 ∧ s.2.1 = (syI (Sea h 0) a1 i).2))) (h 9 5) (by omega) (by omega) ⟨rfl, Mf_rfl hI, by dsimp only; omega, Or.inl rfl⟩ (fun i s a b hi => by
      obtain ⟨f, w, c, m⟩ := s
      obtain ⟨q1, q2, q3, q4⟩ := hi
      dsimp only at q1 q2 q3 q4
      subst q1
      obtain ⟨F, hY, hs⟩ := c_rdy q2
      have e0 : sf_seasonAt m 0 = some (63, F) := hs 0 (by omega) (by omega)
      have ca := rdy_c0 hY
      have hr := hR c a (by omega)
      have er := ca.1.2.2.2.2.1 c a (by omega)
      obtain ⟨m', e1, k1, hY'⟩ := c_ifCh hI hY.1 (p := a1) (q := sR (Sea h 0) c) g (by omega)
      have ok := swS_ok sW sF (p := a1) (q := sR (Sea h 0) c) (by omega) (by omega)
      have e2 := c_share k1 (p := a1) (show sP (Sea h 0) ≤ 6 by omega) (show 0 ≤ a1 ∧ a1 < sP (Sea h 0) by omega)
      have hv := sw_in sW sF (p := a1) (x := sR (Sea h 0) c) (by omega) (by omega)
      obtain ⟨z, ez, zr⟩ : ∃ z : Int × Int, (if c = 0 then some (c, shS (swS a1 (sR (Sea h 0) c) (Sea h 0)) a1) else if w < shS (swS a1 (sR (Sea h 0) c) (Sea h 0)) a1 then some (c, shS (swS a1 (sR (Sea h 0) c) (Sea h 0)) a1) else some (f, w)) = some z ∧ z.1 = (syI (Sea h 0) a1 (c + 1)).1 ∧ z.2 = (syI (Sea h 0) a1 (c + 1)).2 ∧ (-63 ≤ z.2 ∧ z.2 ≤ 9) := by
        rw [syI_succ _ _ a]
        by_cases z0 : c = 0
        · rw [if_pos z0]
          refine ⟨_, rfl, ?_⟩
          rw [if_pos (show (syI (Sea h 0) a1 c).2 < shS (swS a1 (sR (Sea h 0) c) (Sea h 0)) a1 by
            have : (syI (Sea h 0) a1 c).2 = -100000 := by rw [z0]; rfl
            omega)]
          exact ⟨rfl, rfl, hv⟩
        · rw [if_neg z0]
          rcases q4 with q4 | ⟨q4, q5⟩
          · exact absurd q4 z0
          · rw [← q5]
            by_cases z1 : w < shS (swS a1 (sR (Sea h 0) c) (Sea h 0)) a1
            · rw [if_pos z1, if_pos z1]
              exact ⟨_, rfl, rfl, rfl, hv⟩
            · rw [if_neg z1, if_neg z1]
              exact ⟨_, rfl, q4, q5, q3⟩
      refine ⟨(z.1, z.2, c + 1, m'), ?_, rfl, hY'.1, zr.2.2, Or.inr ⟨zr.1, zr.2.1⟩⟩
      simp only [sf_stay_b1, Mf_9 q2]
      rw [wr_id (show -2147483648 ≤ c ∧ c < 2147483648 by omega), wr_id (show -2147483648 ≤ h 9 5 ∧ h 9 5 < 2147483648 by omega), if_pos b, e0, bd_some]
      dsimp only
      rw [chk_t sh63, chk_t (by omega), show F (63 + 2) c = sR (Sea h 0) c from er, e1, bd_some]
      dsimp only
      rw [chk_t sh19, e2, bd_some, wr_id (show -2147483648 ≤ w ∧ w < 2147483648 by omega), wr_id (show -2147483648 ≤ shS (swS a1 (sR (Sea h 0) c) (Sea h 0)) a1 ∧ shS (swS a1 (sR (Sea h 0) c) (Sea h 0)) a1 < 2147483648 by omega), ez, bd_some]) (fun s hi => by
      obtain ⟨f, w, c, m⟩ := s
      obtain ⟨q1, q2, q3, q4⟩ := hi
      dsimp only at q1 q2 q3 q4
      subst q1
      refine ⟨(f, m), ?_, ?_, q2⟩
      · simp only [sf_stay_b1, Mf_9 q2]
        rw [if_neg (by omega)]
      · rcases q4 with q4 | ⟨q4, q5⟩
        · omega
        · exact q4)
    obtain ⟨v, m⟩ := r
    dsimp only at r1 r2
    have m0 : Mf h (up m 167 0 0) := Mf_up r2 (by omega) (by omega) (by omega)
    obtain ⟨r, e', z1, z2⟩ := lp (body := md_stay_b1 a1) (s0 := (0, -100000, 0, up m 167 0 0)) (Q := fun r => r.1 = (syI (Sea h 0) a1 (h 9 5)).1 ∧ Mf h r.2) (fun i s => s.2.2.1 = i ∧ Mf h s.2.2.2 ∧ s.1 = (syI (Sea h 0) a1 i).1 ∧ s.2.1 = (syI (Sea h 0) a1 i).2) (h 9 5) (by omega) (by omega) ⟨rfl, m0, rfl, rfl⟩ (fun i s a b hi => by
      obtain ⟨f, w, c, m⟩ := s
      obtain ⟨q1, q2, q3, q4⟩ := hi
      dsimp only at q1 q2 q3 q4
      subst q1
      have hw := sin c a (by omega)
      rw [← q4] at hw
      obtain ⟨u, et, kB, kA, mu⟩ := Mf_first q2
      have hr := hR c a (by omega)
      have er := (kB.2.2.2.2.2 c a (by omega)).1
      have hv := sw_in sW sF (p := a1) (x := sR (Sea h 0) c) (by omega) (by omega)
      have ok := swS_ok sW sF (p := a1) (q := sR (Sea h 0) c) (by omega) (by omega)
      obtain ⟨u2, e2, kB2, mu2⟩ : ∃ u2, (if sR (Sea h 0) c = a1 then some u else chk (0 ≤ c ∧ c < 6) (Option.bind (md_changes u a1 (sR (Sea h 0) c)) (fun r11 => some r11))) = some u2 ∧ MB u2 (swS a1 (sR (Sea h 0) c) (Sea h 0)) ∧ Mf h u2 := by
        by_cases z : sR (Sea h 0) c = a1
        · refine ⟨u, by rw [if_pos z], ?_, mu⟩
          rw [z, swS_self sF (by omega)]; exact kB
        · obtain ⟨u2, x1, x2, x3⟩ := m_change sW sF kB (p := a1) (q := sR (Sea h 0) c) (by omega) (by omega)
          exact ⟨u2, by rw [if_neg z, chk_t (by omega), x1, bd_some], x2, Mf_scr mu (fun a ha => x3 a (by omega) (by omega))⟩
      obtain ⟨u3, e3, kA3, _, mu3⟩ := m_gr mu2 ok.1 ok.2 kB2
      have e4 := m_has ok.1 ok.2 kA3 (p := a1) (show 0 ≤ a1 ∧ a1 < sP (Sea h 0) by omega)
      have c2 : m 174 4 = h 9 5 := (Mf_n q2).2.2.2.2.1
      refine ⟨((syI (Sea h 0) a1 (c + 1)).1, (syI (Sea h 0) a1 (c + 1)).2, c + 1, u3), ?_, rfl, mu3, rfl, rfl⟩
      rw [syI_succ _ _ a, ← q4]
      unfold md_stay_b1 md_people
      dsimp only
      rw [c2, bd_some, wr_id (show -2147483648 ≤ c ∧ c < 2147483648 by omega), wr_id (show -2147483648 ≤ h 9 5 ∧ h 9 5 < 2147483648 by omega), if_pos b, et, bd_some, chk_t (by omega), er, w1, wr_id (show -2147483648 ≤ sR (Sea h 0) c ∧ sR (Sea h 0) c < 2147483648 by omega), e2, bd_some, e3, bd_some, e4, bd_some, wr_id (show -2147483648 ≤ w ∧ w < 2147483648 by omega), wr_id (show -2147483648 ≤ shS (swS a1 (sR (Sea h 0) c) (Sea h 0)) a1 ∧ shS (swS a1 (sR (Sea h 0) c) (Sea h 0)) a1 < 2147483648 by omega)]
      by_cases z : w < shS (swS a1 (sR (Sea h 0) c) (Sea h 0)) a1
      · rw [if_neg (by omega), bd_some, if_pos z]; rfl
      · rw [if_pos (by omega), if_neg z, bd_some, q3, q4]) (fun s hi => by
      obtain ⟨f, w, c, m⟩ := s
      obtain ⟨q1, q2, q3, q4⟩ := hi
      dsimp only at q1 q2 q3 q4
      subst q1
      have c2 : m 174 4 = h 9 5 := (Mf_n q2).2.2.2.2.1
      refine ⟨(f, m), ?_, q3, q2⟩
      unfold md_stay_b1 md_people
      dsimp only
      rw [c2, bd_some, if_neg (by omega)])
    obtain ⟨v', m'⟩ := r
    dsimp only at z1 z2
    refine ⟨v, m, v', m', ?_, ?_, by rw [r1, z1], z2.1⟩
    · unfold sf_stay
      rw [c_isP hI w1, bd_some, bI_t g, if_neg n1, e, bd_some]
    · unfold md_stay
      rw [lt_eq, Mf_isP hI m0 w1, bd_some, bI_t g, if_neg n1, e', bd_some]
  · have m0 : Mf h (up h 167 0 0) := Mf_self hI
    refine ⟨-2, h, -2, up h 167 0 0, ?_, ?_, rfl, m0.1⟩
    · unfold sf_stay
      rw [c_isP hI w1, bd_some, bI_f g, if_pos n0]
    · unfold md_stay
      rw [lt_eq, Mf_isP hI m0 w1, bd_some, bI_f g, if_pos n0]
theorem st_gain : St_gain INV := by
  intro h hI a1 a2 w1 w2
  have n1 : ¬ wr 1 = 0 := by decide
  have n0 : wr 0 = 0 := rfl
  have lP := (INV_l hI).2.2.2.2.2.1.2
  by_cases g : (0 ≤ a1 ∧ a1 < h 9 5) ∧ (0 ≤ a2 ∧ a2 < h 9 5) ∧ a1 ≠ a2
  · obtain ⟨sW, sF, eK, eL, eP, eN⟩ := Sea_ok hI 0
    obtain ⟨F, hR, hs⟩ := c_rdy (Mf_rfl hI)
    have e0 : sf_seasonAt h 0 = some (63, F) := hs 0 (by omega) (by omega)
    obtain ⟨m, e1, k1, hR1⟩ := c_ifCh hI hR.1 (p := a1) (q := a2) g.1 g.2.1
    have ca := rdy_c0 hR1
    have x1 := c_share k1 (p := a1) (show sP (Sea h 0) ≤ 6 by omega) (show 0 ≤ a1 ∧ a1 < sP (Sea h 0) by omega)
    have x2 := c_share k1 (p := a2) (show sP (Sea h 0) ≤ 6 by omega) (show 0 ≤ a2 ∧ a2 < sP (Sea h 0) by omega)
    have x3 := c_share ca (p := a1) (by omega) (by omega)
    have x4 := c_share ca (p := a2) (by omega) (by omega)
    have m0 : Mf h (up m 167 0 0) := Mf_up hR1.1 (by omega) (by omega) (by omega)
    obtain ⟨u, d1, mu⟩ := m_gainO hI m0 (w := 0) g.1 g.2.1
    obtain ⟨v, d2, mv⟩ := m_gainO hI mu (w := 1) g.1 g.2.1
    rw [if_pos n0] at d1
    rw [if_neg n1] at d2
    refine ⟨shS (swS a1 a2 (Sea h 0)) a1 + shS (swS a1 a2 (Sea h 0)) a2 - shS (Sea h 0) a1 - shS (Sea h 0) a2, m, (shS (swS a1 a2 (Sea h 0)) a1 - shS (Sea h 0) a1) + (shS (swS a1 a2 (Sea h 0)) a2 - shS (Sea h 0) a2), v, ?_, ?_, ?_, mv.1⟩
    · unfold sf_gain
      rw [c_pair hI w1 w2, bd_some, bI_t g, if_neg n1, e0, bd_some]
      dsimp only
      rw [chk_t sh63, e1, bd_some]
      dsimp only
      rw [chk_t sh19, x1, bd_some, x2, bd_some, x3, bd_some, x4, bd_some]
    · unfold md_gain
      rw [lt_eq, Mf_two hI m0 w1 w2, bd_some, bI_t g, if_neg n1, d1, bd_some]
      dsimp only
      rw [d2, bd_some, bd_some]
    · congr 1; omega
  · have m0 : Mf h (up h 167 0 0) := Mf_self hI
    refine ⟨-1000, h, -1000, up h 167 0 0, ?_, ?_, rfl, m0.1⟩
    · unfold sf_gain
      rw [c_pair hI w1 w2, bd_some, bI_f g, if_pos n0]
    · unfold md_gain
      rw [lt_eq, Mf_two hI m0 w1 w2, bd_some, bI_f g, if_pos n0, bd_some]
theorem st_worth : St_worth INV := by
  intro h hI a1 a2 a3 w1 w2 w3
  have b3 := in32 w3
  have n1 : ¬ wr 1 = 0 := by decide
  have n0 : wr 0 = 0 := rfl
  have m0 : Mf h (up h 167 0 0) := Mf_self hI
  have q := m_in (t := up h 167 0 0) (a := a3) (x := -9) (y := 9) (by omega) (by omega) (by omega)
  have k9 : wr 9 = 9 := rfl
  have km9 : wr (-9) = -9 := rfl
  by_cases g1 : 0 ≤ a1 ∧ a1 < h 9 5
  · by_cases g2 : 0 ≤ a2 ∧ a2 < h 9 1
    · by_cases g3 : -9 ≤ a3 ∧ a3 ≤ 9
      · obtain ⟨sW, sF, eK, eL, eP, eN⟩ := Sea_ok hI 0
        obtain ⟨m, e1, hR⟩ := c_sumT hI (Mf_rfl hI) (p := a1) (k := a2) (n := a3) g1 g2 g3
        have e2 := c_sum sW (rdy_c0 hR)
        have m1 : Mf h (up m 167 0 0) := Mf_up hR.1 (by omega) (by omega) (by omega)
        have q := m_in (t := up m 167 0 0) (a := a3) (x := -9) (y := 9) (by omega) (by omega) (by omega)
        obtain ⟨u, d1, mu⟩ := m_allW hI m1 (p := a1) (k := a2) (n := a3) g1 g2 g3
        obtain ⟨v, d2, mv⟩ := m_allN hI mu
        refine ⟨suS (tdS a1 a2 a3 (Sea h 0)) - suS (Sea h 0), m, suS (tdS a1 a2 a3 (Sea h 0)) - suS (Sea h 0), v, ?_, ?_, rfl, mv.1⟩
        · unfold sf_worth
          rw [c_isP hI w1, bd_some, bI_t g1, if_neg n1, c_isK hI w2, bd_some, bI_t g2, if_neg n1, w3, k9, km9, if_pos g3.1, if_neg (by omega), e1, bd_some]
          dsimp only
          rw [rdy_0 hR, bd_some]
          dsimp only
          rw [chk_t sh63, e2, bd_some]
        · unfold md_worth
          rw [lt_eq, Mf_isP hI m1 w1, bd_some, bI_t g1, if_neg n1, Mf_isK hI m1 w2, bd_some, bI_t g2, if_neg n1, w3, q, bd_some, bI_t g3, if_neg n1, d1, bd_some]
          dsimp only
          rw [d2, bd_some, bd_some]
      · refine ⟨-10000, h, -10000, up h 167 0 0, ?_, ?_, rfl, m0.1⟩
        · unfold sf_worth
          rw [c_isP hI w1, bd_some, bI_t g1, if_neg n1, c_isK hI w2, bd_some, bI_t g2, if_neg n1, w3, k9, km9]
          by_cases z : -9 ≤ a3
          · rw [if_pos z, if_pos (by omega)]
          · rw [if_neg z]
        · unfold md_worth
          rw [lt_eq, Mf_isP hI m0 w1, bd_some, bI_t g1, if_neg n1, Mf_isK hI m0 w2, bd_some, bI_t g2, if_neg n1, w3, q, bd_some, bI_f g3, if_pos n0, bd_some]
    · refine ⟨-10000, h, -10000, up h 167 0 0, ?_, ?_, rfl, m0.1⟩
      · unfold sf_worth
        rw [c_isP hI w1, bd_some, bI_t g1, if_neg n1, c_isK hI w2, bd_some, bI_f g2, if_pos n0]
      · unfold md_worth
        rw [lt_eq, Mf_isP hI m0 w1, bd_some, bI_t g1, if_neg n1, Mf_isK hI m0 w2, bd_some, bI_f g2, if_pos n0, bd_some]
  · refine ⟨-10000, h, -10000, up h 167 0 0, ?_, ?_, rfl, m0.1⟩
    · unfold sf_worth
      rw [c_isP hI w1, bd_some, bI_f g1, if_pos n0]
    · unfold md_worth
      rw [lt_eq, Mf_isP hI m0 w1, bd_some, bI_f g1, if_pos n0, bd_some]
def leN (S : Sn) (p : Int) : Nat → Int × Int
  | 0 => (suS S, -1)
  | n + 1 => if (leN S p n).1 < suS (tdS p (n : Int) (-1) S) then (suS (tdS p (n : Int) (-1) S), (n : Int)) else leN S p n
def leI (S : Sn) (p i : Int) : Int × Int := leN S p i.toNat
theorem leI_succ (S : Sn) (p : Int) {i : Int} (hi : 0 ≤ i) : leI S p (i + 1) = if (leI S p i).1 < suS (tdS p i (-1) S) then (suS (tdS p i (-1) S), i) else leI S p i := by
  unfold leI
  have e : (i + 1).toNat = i.toNat + 1 := by omega
  have e2 : ((i.toNat : Nat) : Int) = i := by omega
  rw [e, leN, e2]
theorem su_in {S : Sn} (hW : WF S) : -378 ≤ suS S ∧ suS S ≤ 54 := suS_in hW hW.2.2.1
theorem leI_in {S : Sn} (hW : WF S) (hF : Full S) (p : Int) {n : Int} (hn : 0 ≤ n) : -378 ≤ (leI S p n).1 ∧ (leI S p n).1 ≤ 54 :=
  ind_to (P := fun i => -378 ≤ (leI S p i).1 ∧ (leI S p i).1 ≤ 54) (n := n) (su_in hW) (fun i a b d => by
    rw [leI_succ S p a]
    split
    · exact su_in (td_ok (p := p) (k := i) (n := -1) (by omega) hW hF).1
    · exact d) n hn (by omega)
theorem st_learn : St_learn INV := by
  intro h hI a1 w1
  have n1 : ¬ wr 1 = 0 := by decide
  have n0 : wr 0 = 0 := rfl
  have lK := (INV_l hI).2.1
  by_cases g : 0 ≤ a1 ∧ a1 < h 9 5
  · obtain ⟨sW, sF, eK, eL, eP, eN⟩ := Sea_ok hI 0
    obtain ⟨F, hR, hs⟩ := c_rdy (Mf_rfl hI)
    have e0 : sf_seasonAt h 0 = some (63, F) := hs 0 (by omega) (by omega)
    have ca := rdy_c0 hR
    have li := fun {n : Int} (hn : 0 ≤ n) => leI_in sW sF a1 hn
    obtain ⟨r, e, r1, r2⟩ := lp (body := sf_learn_b1 a1) (s0 := (suS (Sea h 0), -1, 0, F)) (Q := fun r => r.1 = (leI (Sea h 0) a1 (h 9 1)).2 ∧ Mf h r.2) (fun i s => s.2.2.1 = i ∧ Mf h s.2.2.2 ∧ s.1 = (leI (Sea h 0) a1 i).1 ∧ s.2.1 = (leI (Sea h 0) a1 i).2) (h 9 1) (by omega) (by omega) ⟨rfl, hR.1, rfl, rfl⟩ (fun i s a b hi => by
      obtain ⟨w, f, c, m⟩ := s
      obtain ⟨q1, q2, q3, q4⟩ := hi
      dsimp only at q1 q2 q3 q4
      subst q1
      have hw := li a
      rw [← q3] at hw
      obtain ⟨m', e1, hR'⟩ := c_sumT hI q2 (p := a1) (k := c) (n := -1) g (by omega) (by omega)
      have hv := su_in (td_ok (p := a1) (k := c) (n := -1) (by omega) sW sF).1
      refine ⟨((leI (Sea h 0) a1 (c + 1)).1, (leI (Sea h 0) a1 (c + 1)).2, c + 1, m'), ?_, rfl, hR'.1, rfl, rfl⟩
      rw [leI_succ _ _ a, ← q3]
      simp only [sf_learn_b1, Mf_9 q2]
      rw [wr_id (show -2147483648 ≤ c ∧ c < 2147483648 by omega), wr_id (show -2147483648 ≤ h 9 1 ∧ h 9 1 < 2147483648 by omega), if_pos b, e1, bd_some]
      dsimp only
      rw [wr_id (show -2147483648 ≤ w ∧ w < 2147483648 by omega), wr_id (show -2147483648 ≤ suS (tdS a1 c (-1) (Sea h 0)) ∧ suS (tdS a1 c (-1) (Sea h 0)) < 2147483648 by omega)]
      by_cases z : w < suS (tdS a1 c (-1) (Sea h 0))
      · rw [if_pos z, if_pos z, bd_some]
      · rw [if_neg z, if_neg z, bd_some, q3, q4]) (fun s hi => by
      obtain ⟨w, f, c, m⟩ := s
      obtain ⟨q1, q2, q3, q4⟩ := hi
      dsimp only at q1 q2 q3 q4
      subst q1
      refine ⟨(f, m), ?_, q4, q2⟩
      simp only [sf_learn_b1, Mf_9 q2]
      rw [if_neg (by omega)])
    obtain ⟨v, m⟩ := r
    dsimp only at r1 r2
    have m0 : Mf h (up m 167 0 0) := Mf_up r2 (by omega) (by omega) (by omega)
    obtain ⟨t, et, mt⟩ := m_allN hI m0
    obtain ⟨r, e', z1, z2⟩ := lp (body := md_learn_b1 a1) (s0 := (-1, suS (Sea h 0), 0, t)) (Q := fun r => r.1 = (leI (Sea h 0) a1 (h 9 1)).2 ∧ Mf h r.2) (fun i s => s.2.2.1 = i ∧ Mf h s.2.2.2 ∧ s.2.1 = (leI (Sea h 0) a1 i).1 ∧ s.1 = (leI (Sea h 0) a1 i).2) (h 9 1) (by omega) (by omega) ⟨rfl, mt, rfl, rfl⟩ (fun i s a b hi => by
      obtain ⟨f, w, c, m⟩ := s
      obtain ⟨q1, q2, q3, q4⟩ := hi
      dsimp only at q1 q2 q3 q4
      subst q1
      have hw := li a
      rw [← q3] at hw
      obtain ⟨m', e1, hR'⟩ := m_allW hI q2 (p := a1) (k := c) (n := -1) g (by omega) (by omega)
      have hv := su_in (td_ok (p := a1) (k := c) (n := -1) (by omega) sW sF).1
      have c2 : m 174 0 = h 9 1 := (Mf_n q2).1
      refine ⟨((leI (Sea h 0) a1 (c + 1)).2, (leI (Sea h 0) a1 (c + 1)).1, c + 1, m'), ?_, rfl, hR', rfl, rfl⟩
      rw [leI_succ _ _ a, ← q3]
      unfold md_learn_b1 md_kindsAll
      dsimp only
      rw [c2, bd_some, wr_id (show -2147483648 ≤ c ∧ c < 2147483648 by omega), wr_id (show -2147483648 ≤ h 9 1 ∧ h 9 1 < 2147483648 by omega), if_pos b, e1, bd_some]
      dsimp only
      rw [wr_id (show -2147483648 ≤ w ∧ w < 2147483648 by omega), wr_id (show -2147483648 ≤ suS (tdS a1 c (-1) (Sea h 0)) ∧ suS (tdS a1 c (-1) (Sea h 0)) < 2147483648 by omega)]
      by_cases z : w < suS (tdS a1 c (-1) (Sea h 0))
      · rw [if_neg (by omega), if_pos z, bd_some]
      · rw [if_pos (by omega), if_neg z, bd_some, q3, q4]) (fun s hi => by
      obtain ⟨f, w, c, m⟩ := s
      obtain ⟨q1, q2, q3, q4⟩ := hi
      dsimp only at q1 q2 q3 q4
      subst q1
      have c2 : m 174 0 = h 9 1 := (Mf_n q2).1
      refine ⟨(f, m), ?_, q4, q2⟩
      unfold md_learn_b1 md_kindsAll
      dsimp only
      rw [c2, bd_some, if_neg (by omega)])
    obtain ⟨v', m'⟩ := r
    dsimp only at z1 z2
    refine ⟨v, m, v', m', ?_, ?_, by rw [r1, z1], z2.1⟩
    · unfold sf_learn
      rw [c_isP hI w1, bd_some, bI_t g, if_neg n1, e0, bd_some]
      dsimp only
      rw [chk_t sh63, c_sum sW ca, bd_some, e, bd_some]
    · unfold md_learn
      rw [lt_eq, Mf_isP hI m0 w1, bd_some, bI_t g, if_neg n1, et, bd_some]
      dsimp only
      rw [e', bd_some]
  · have m0 : Mf h (up h 167 0 0) := Mf_self hI
    refine ⟨-2, h, -2, up h 167 0 0, ?_, ?_, rfl, m0.1⟩
    · unfold sf_learn
      rw [c_isP hI w1, bd_some, bI_f g, if_pos n0]
    · unfold md_learn
      rw [lt_eq, Mf_isP hI m0 w1, bd_some, bI_f g, if_pos n0]
