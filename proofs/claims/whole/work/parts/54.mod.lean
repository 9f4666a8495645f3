/-! Layer 2: the model reads a season -/
def MP (t : Hp) (S : Sn) : Prop := t 174 0 = sK S ∧ t 174 1 = sL S ∧ t 174 4 = sP S ∧ t 167 26 = sN S ∧ (∀ i, 0 ≤ i → i < 5 * sP S → t 178 i = sT S i) ∧ (∀ x, 0 ≤ x → x < sN S → t 179 x = sR S x ∧ t 180 (sR S x) = x) ∧ (∀ p, 0 ≤ p → p < sP S → ∀ c, iand (iand (bs c) (ixor (t 181 p) (-1))) (ixor (t 182 p) (-1)) = bs (fun k => c k && !(sH S p k)))
def MA (t : Hp) (S : Sn) : Prop := MP t S ∧ ∀ x, 0 ≤ x → x < sN S → t 183 (sR S x) = grS S (sR S x)
theorem MP_fr {t t' : Hp} {S : Sn} (hM : MP t S) (h1 : t' 174 = t 174) (h2 : t' 167 26 = t 167 26) (h3 : ∀ a, 178 ≤ a → a ≤ 182 → t' a = t a) : MP t' S := by
  unfold MP
  rw [h1, h2, h3 178 (by omega) (by omega), h3 179 (by omega) (by omega), h3 180 (by omega) (by omega), h3 181 (by omega) (by omega), h3 182 (by omega) (by omega)]
  exact hM
theorem MA_fr {t t' : Hp} {S : Sn} (hM : MA t S) (h1 : t' 174 = t 174) (h2 : t' 167 26 = t 167 26) (h3 : ∀ a, 178 ≤ a → a ≤ 183 → t' a = t a) : MA t' S := by
  refine ⟨MP_fr hM.1 h1 h2 (fun a x y => h3 a x (by omega)), ?_⟩
  rw [h3 183 (by omega) (by omega)]; exact hM.2
theorem m_ta {t : Hp} {S : Sn} (hM : MP t S) (hP : sP S ≤ 6) {p k : Int} (hp : 0 ≤ p ∧ p < sP S) (hk : 0 ≤ k ∧ k < 5) : md_tasteOf t p k = some (sT S (p * 5 + k)) := by
  obtain ⟨c0, c1, c2, c3, cT, cR, cH⟩ := hM
  unfold md_tasteOf
  have e : 5 * p + k = p * 5 + k := by omega
  simp (disch := omega) only [e, wr_id, chk_t, cT]
theorem m_hates {t : Hp} {S : Sn} (hW : WF S) (hM : MP t S) {p : Int} (hp : 0 ≤ p ∧ p < sP S) : md_hatesOf t p = some (bs (hatS S p)) := by
  have hM' := hM
  obtain ⟨hK, hL, hP, hN, hT, hR⟩ := hW
  obtain ⟨c0, c1, c2, c3, cT, cR, cH⟩ := hM'
  unfold md_hatesOf
  have hit := lp_fn (body := md_hatesOf_b1 t p) (s0 := (0, 0)) (fun i => (bs (upto i (fun k => decide (sT S (p * 5 + k) < 0))), i)) (sK S) (bs (hatS S p)) (by omega) (by omega) (by rw [upto0]) (fun i a b => by
    have hT' := hT (p * 5 + i)
    simp (disch := omega) only [md_hatesOf_b1, md_kindsAll, bd_some, c0, wr_id, if_pos, m_ta hM hP.2 hp (show 0 ≤ i ∧ i < 5 by omega), ← bs_up' _ a (show i < 6 by omega), decide_eq_true_eq]) (by
    simp (disch := omega) only [md_hatesOf_b1, md_kindsAll, bd_some, c0, wr_id, if_neg]
    rfl)
  rw [hit]; rfl
theorem m_open {t : Hp} {S : Sn} (hW : WF S) (hM : MP t S) {p : Int} (hp : 0 ≤ p ∧ p < sP S) : md_openOf t p = some (bs (opS S p)) := by
  have hP := hW.2.2.1
  unfold md_openOf
  rw [m_hates hW hM hp]
  simp (disch := omega) only [bd_some, wr_id, chk_t]
  rw [hM.2.2.2.2.2.2 p hp.1 hp.2]
  rfl
theorem m_dec {t : Hp} {S : Sn} (hW : WF S) (hM : MP t S) {x : Int} (hx : 0 ≤ x ∧ x < sN S) : md_decidesFor t (sR S x) = some (dpS S (sR S x)) := by
  obtain ⟨hK, hL, hP, hN, hT, hR⟩ := hW
  obtain ⟨c0, c1, c2, c3, cT, cR, cH⟩ := hM
  have hr := hR x hx.1 hx.2
  have h180 := (cR x hx.1 hx.2).2
  have c179 : ∀ y, 0 ≤ y → y < sN S → t 179 y = sR S y := fun y a b => (cR y a b).1
  unfold md_decidesFor dpS dcR
  rw [hr.2.2]
  by_cases g : x + 1 < sN S
  · simp (disch := omega) only [wr_id, chk_t, h180, c3, g, if_true, if_pos, c179]
  · by_cases g2 : sL S = 2
    · simp (disch := omega) only [wr_id, chk_t, h180, c3, c1, g, g2, if_true, if_false, if_pos, if_neg, c179, bd_some]
    · by_cases g3 : sL S = 3
      · by_cases g4 : 1 < sN S
        · have e : x - 1 = sN S - 2 := by omega
          simp (disch := omega) only [wr_id, chk_t, h180, c3, c1, g, g2, g3, g4, e, if_true, if_false, if_pos, if_neg, c179, bd_some, true_and]
        · simp (disch := omega) only [wr_id, chk_t, h180, c3, c1, g, g2, g3, g4, if_true, if_false, if_pos, if_neg, bd_some, true_and]
      · simp (disch := omega) only [wr_id, chk_t, h180, c3, c1, g, g2, g3, if_true, if_false, if_pos, if_neg, bd_some, false_and]
theorem dpS_in' {S : Sn} (hW : WF S) {x : Int} (hx : 0 ≤ x ∧ x < sN S) : -1 ≤ dpS S (sR S x) ∧ dpS S (sR S x) < sP S := by
  obtain ⟨_, _, hP, hN, _, hR⟩ := hW
  unfold dpS
  rw [(hR x hx.1 hx.2).2.2]
  exact dcR_in hN.1 hx (fun y a b => by have := hR y a b; omega)
theorem m_may {t : Hp} {S : Sn} (hW : WF S) (hM : MP t S) {x : Int} (hx : 0 ≤ x ∧ x < sN S) : md_mayOf t (sR S x) = some (bs (alS S (dpS S (sR S x)))) := by
  have hd := dpS_in' hW hx
  have hK := hW.1
  have hL := hW.2.1
  have hP := hW.2.2.1
  unfold md_mayOf
  rw [m_dec hW hM hx, bd_some]
  generalize dpS S (sR S x) = d at hd
  by_cases g : d = -1
  · subst g
    unfold alS
    by_cases g2 : sL S = 1
    · simp (disch := omega) only [wr_id, if_true, hM.2.1, g2, md_kindsAll, hM.1, bd_some]
      rw [bs_shl1 _ (by omega) (by omega)]
    · simp (disch := omega) only [wr_id, if_true, hM.2.1, g2, if_false, bd_some]
      rw [bs_zero]
  · unfold alS
    rw [if_neg (by rw [wr_id (by omega), wr_id (by omega)]; exact g), if_neg g, m_open hW hM (by omega)]
    rfl
theorem m_liked {t : Hp} {S : Sn} (hW : WF S) (hM : MP t S) {p : Int} (hp : 0 ≤ p ∧ p < sP S) {c : Int → Bool} (hc : ∀ k, sK S ≤ k → k < 5 → c k = false) : md_likedOf t p (bs c) = some (fv (sT S) p c 5) := by
  have hM' := hM
  obtain ⟨hK, hL, hP, hN, hT, hR⟩ := hW
  obtain ⟨c0, c1, c2, c3, cT, cR, cH⟩ := hM'
  rw [fv_ext (sT S) p c hK.1 hK.2 hc]
  unfold md_likedOf
  have hit := lp_fn (body := md_likedOf_b1 t p (bs c)) (s0 := (-1, 0)) (fun i => (fv (sT S) p c i, i)) (sK S) (fv (sT S) p c (sK S)) (by omega) (by omega) rfl (fun i a b => by
    have h1 := fv_in (sT S) p c a
    have h2 := hT (p * 5 + i)
    have h3 := hT (p * 5 + fv (sT S) p c i)
    have h4 : md_isBit t (bs c) i = some (bt (c i) 1) := by
      unfold md_isBit
      rw [wr_iand, bs_bit c i a (by omega)]
      cases c i <;> rfl
    simp (disch := omega) only [md_likedOf_b1, md_kindsAll, bd_some, c0, wr_id, if_pos, h4, fv_succ (sT S) p c a]
    cases c1 : c i
    · simp [bt, wr_id]
    · have z : ¬ (wr (bt true 1) = 0) := by decide
      rw [if_neg z]
      by_cases c2 : fv (sT S) p c i = -1
      · simp (disch := omega) only [c2, true_and, true_or, if_true, bd_some]
      · rw [m_ta hM hP.2 hp (by omega), m_ta hM hP.2 hp (by omega)]
        by_cases c3 : sT S (p * 5 + fv (sT S) p c i) < sT S (p * 5 + i)
        · simp (disch := omega) only [c2, c3, true_and, false_or, if_true, if_false, bd_some, wr_id]
        · simp (disch := omega) only [c2, c3, true_and, false_or, if_false, bd_some, wr_id]) (by
    simp (disch := omega) only [md_likedOf_b1, md_kindsAll, bd_some, c0, wr_id, if_neg])
  rw [hit]; rfl
theorem m_grow {t : Hp} {S : Sn} (hW : WF S) (hM : MP t S) : ∃ t', md_grow t = some t' ∧ MA t' S ∧ ∀ a, a ≠ 183 → t' a = t a := by
  have hW' := hW
  obtain ⟨hK, hL, hP, hN, hT, hR⟩ := hW'
  obtain ⟨g, e, f, r⟩ := lp (body := md_grow_b1) (s0 := (0, t)) (Q := fun g => (∀ a, a ≠ 183 → g a = t a) ∧ (∀ y, 0 ≤ y → y < sN S → g 183 (sR S y) = grS S (sR S y))) (fun i s => s.1 = i ∧ (∀ a, a ≠ 183 → s.2 a = t a) ∧ (∀ y, 0 ≤ y → y < i → s.2 183 (sR S y) = grS S (sR S y))) (sN S) (by omega) (by omega) ⟨rfl, fun _ _ => rfl, fun p a b => by omega⟩ (fun i s a b hI => by
    obtain ⟨c, m⟩ := s
    obtain ⟨e, f, g⟩ := hI
    dsimp only at e f g
    subst e
    have hMm : MP m S := MP_fr hM (f _ (by omega)) (by rw [f _ (by omega)]) (fun a _ _ => f a (by omega))
    have c3 := hMm.2.2.2.1
    have c179 := (hMm.2.2.2.2.2.1 c a b).1
    have hr := hR c a b
    have em := m_may hW hMm (x := c) ⟨a, b⟩
    have el := m_liked hW hMm (p := sR S c) (c := alS S (dpS S (sR S c))) (by omega) (fun k h1 h2 => alS_lt hW _ h1)
    refine ⟨(c + 1, up m 183 (sR S c) (grS S (sR S c))), ?_, rfl, ?_, ?_⟩
    · simp (disch := omega) only [md_grow_b1, c3, c179, wr_id, if_pos, em, el, bd_some, chk_t, lt_eq]
      rfl
    · intro a' h1
      try dsimp only
      rw [up_nk h1]; exact f a' h1
    · intro y h1 h2
      try dsimp only
      by_cases ep : y = c
      · subst ep; rw [up_eq]
      · have hy := hR y h1 (by omega)
        have ne : sR S y ≠ sR S c := by intro z; rw [z] at hy; omega
        rw [up_ni ne]
        exact g y h1 (by omega)) (fun s hI => by
    obtain ⟨c, m⟩ := s
    obtain ⟨e, f, g⟩ := hI
    dsimp only at e f g
    subst e
    have c3 : m 167 26 = sN S := by rw [f _ (by omega)]; exact hM.2.2.2.1
    exact ⟨m, by simp (disch := omega) only [md_grow_b1, c3, wr_id, if_neg], f, g⟩)
  exact ⟨g, by unfold md_grow; rw [e]; rfl, ⟨MP_fr hM (f _ (by omega)) (by rw [f _ (by omega)]) (fun a _ _ => f a (by omega)), r⟩, f⟩
theorem MA_g {t : Hp} {S : Sn} (hF : Full S) (hM : MA t S) {p : Int} (hp : 0 ≤ p ∧ p < sP S) : t 183 p = grS S p := by
  have hq := hF.2 p hp.1 hp.2
  have := hM.2 (sQ S p) hq.1 (by rw [hF.1]; exact hq.2.1)
  rw [hq.2.2] at this
  exact this
theorem MA_180 {t : Hp} {S : Sn} (hF : Full S) (hM : MP t S) {p : Int} (hp : 0 ≤ p ∧ p < sP S) : t 180 p = sQ S p := by
  have hq := hF.2 p hp.1 hp.2
  have := (hM.2.2.2.2.2.1 (sQ S p) hq.1 (by rw [hF.1]; exact hq.2.1)).2
  rw [hq.2.2] at this
  exact this
theorem m_decF {t : Hp} {S : Sn} (hW : WF S) (hF : Full S) (hM : MP t S) {p : Int} (hp : 0 ≤ p ∧ p < sP S) : md_decidesFor t p = some (dpS S p) := by
  have hq := hF.2 p hp.1 hp.2
  have := m_dec hW hM (x := sQ S p) ⟨hq.1, by rw [hF.1]; exact hq.2.1⟩
  rw [hq.2.2] at this
  exact this
theorem m_mayF {t : Hp} {S : Sn} (hW : WF S) (hF : Full S) (hM : MP t S) {p : Int} (hp : 0 ≤ p ∧ p < sP S) : md_mayOf t p = some (bs (alS S (dpS S p))) := by
  have hq := hF.2 p hp.1 hp.2
  have := m_may hW hM (x := sQ S p) ⟨hq.1, by rw [hF.1]; exact hq.2.1⟩
  rw [hq.2.2] at this
  exact this
theorem taS_pos {S : Sn} {p k : Int} (h : k ≠ -1) : taS S p k = sT S (p * 5 + k) := by unfold taS; rw [if_neg h]
theorem m_has {t : Hp} {S : Sn} (hW : WF S) (hF : Full S) (hM : MA t S) {p : Int} (hp : 0 ≤ p ∧ p < sP S) : md_hasOf t p = some (shS S p) := by
  have hW' := hW
  have hM' := hM.1
  obtain ⟨hK, hL, hP, hN, hT, hR⟩ := hW'
  obtain ⟨c0, c1, c2, c3, cT, cR, cH⟩ := hM'
  have hg := MA_g hF hM hp
  have hgi := grS_in S p
  have hs : snS S p = sm (sN S) (fun x => if dpS S (sR S x) = p then stS S (sR S x) p (grS S (sR S x)) else 0) := by
    unfold snS
    rw [hF.1]
    exact (sm_perm hP.1 (fun x a b => hR x a (by rw [hF.1]; exact b)) hF.2 (fun q => if dpS S q = p then stS S q p (grS S q) else 0)).symm
  have hit := lp_fn (body := md_hasOf_b1 t p) (s0 := (joS S p, 0)) (fun i => (joS S p - sm i (fun x => if dpS S (sR S x) = p then stS S (sR S x) p (grS S (sR S x)) else 0), i)) (sN S) (shS S p) (by omega) (by omega) (by rw [sm_zero, Int.sub_zero]) (fun i a b => by
    have hr := hR i a b
    have c179 := (cR i a b).1
    have ed := m_dec hW hM.1 (x := i) ⟨a, b⟩
    have hd := dpS_in' hW (x := i) ⟨a, b⟩
    have c183 := hM.2 i a b
    have hgi' := grS_in S (sR S i)
    rw [sm_succ a]
    by_cases q1 : sR S i = p
    · have z : stS S (sR S i) p (grS S (sR S i)) = 0 := by unfold stS; rw [if_pos (Or.inr q1.symm)]
      rw [z]
      simp (disch := omega) only [md_hasOf_b1, c3, c179, wr_id, if_pos, if_true, chk_t, bd_some, ite_self, Int.add_zero, q1]
    · by_cases q2 : dpS S (sR S i) = p
      · by_cases q3 : grS S (sR S i) = -1
        · have z : stS S (sR S i) p (grS S (sR S i)) = 0 := by
            unfold stS taS; rw [q3]; simp
          rw [z]
          simp (disch := omega) only [md_hasOf_b1, c3, c179, wr_id, if_pos, if_neg, if_true, chk_t, bd_some, ite_self, Int.add_zero, q2, ed, c183, q3]
        · have et := m_ta hM.1 hP.2 hp (k := grS S (sR S i)) (by omega)
          have ht := hT (p * 5 + grS S (sR S i))
          by_cases q4 : sT S (p * 5 + grS S (sR S i)) < 0
          · have z : stS S (sR S i) p (grS S (sR S i)) = - sT S (p * 5 + grS S (sR S i)) := by
              unfold stS; rw [if_neg (by omega), taS_pos q3, if_pos q4]
            rw [z, if_pos q2]
            simp (disch := omega) only [md_hasOf_b1, c3, c179, wr_id, if_pos, if_neg, if_true, chk_t, bd_some, q2, ed, c183, et]
            congr 3
            omega
          · have z : stS S (sR S i) p (grS S (sR S i)) = 0 := by
              unfold stS; rw [if_neg (by omega), taS_pos q3, if_neg q4]
            rw [z]
            simp (disch := omega) only [md_hasOf_b1, c3, c179, wr_id, if_pos, if_neg, if_true, chk_t, bd_some, ite_self, Int.add_zero, q2, ed, c183, et]
      · rw [if_neg q2]
        simp (disch := omega) only [md_hasOf_b1, c3, c179, wr_id, if_pos, if_neg, chk_t, bd_some, Int.add_zero, ed]) (by
    simp (disch := omega) only [md_hasOf_b1, c3, wr_id, if_neg]
    unfold shS; rw [hs])
  unfold md_hasOf
  by_cases q : grS S p = -1
  · have z : joS S p = 0 := by unfold joS taS; rw [if_pos q]
    rw [z] at hit
    simp (disch := omega) only [wr_id, chk_t, hg, q, if_true, bd_some, hit]
  · have et := m_ta hM.1 hP.2 hp (k := grS S p) (by omega)
    have z : joS S p = sT S (p * 5 + grS S p) := by unfold joS; exact taS_pos q
    rw [z] at hit
    simp (disch := omega) only [wr_id, chk_t, hg, if_neg, et, bd_some, hit]
theorem m_joy {t : Hp} {S : Sn} (hP : sP S ≤ 6) (hF : Full S) (hM : MA t S) {p : Int} (hp : 0 ≤ p ∧ p < sP S) : md_joyOf t p = some (joS S p) := by
  have hg := MA_g hF hM hp
  have hgi := grS_in S p
  unfold md_joyOf joS taS
  by_cases q : grS S p = -1
  · simp (disch := omega) only [wr_id, chk_t, hg, q, if_true, bd_some]
  · have et := m_ta hM.1 hP hp (k := grS S p) (by omega)
    simp (disch := omega) only [wr_id, chk_t, hg, if_neg, et, bd_some]
theorem m_hasAll {t : Hp} {S : Sn} (hW : WF S) (hF : Full S) (hM : MA t S) : md_hasAll t = some (suS S) := by
  have hW' := hW
  have hM' := hM.1
  obtain ⟨hK, hL, hP, hN, hT, hR⟩ := hW'
  obtain ⟨c0, c1, c2, c3, cT, cR, cH⟩ := hM'
  have hs : suS S = sm (sN S) (fun x => shS S (sR S x)) := by
    unfold suS
    rw [hF.1]
    exact (sm_perm hP.1 (fun x a b => hR x a (by rw [hF.1]; exact b)) hF.2 (shS S)).symm
  rw [hs]
  unfold md_hasAll
  have hit := lp_fn (body := md_hasAll_b1 t) (s0 := (0, 0)) (fun i => (sm i (fun x => shS S (sR S x)), i)) (sN S) (sm (sN S) (fun x => shS S (sR S x))) (by omega) (by omega) rfl (fun i a b => by
    have hr := hR i a b
    have c179 := (cR i a b).1
    simp (disch := omega) only [md_hasAll_b1, c3, c179, wr_id, if_pos, chk_t, m_has hW hF hM (p := sR S i) (by omega), bd_some, sm_succ a]) (by
    simp (disch := omega) only [md_hasAll_b1, c3, wr_id, if_neg])
  rw [hit]; rfl
def brS (S : Sn) (n : Int) : Int → Bool := fun p => decide (0 ≤ sQ S p ∧ sQ S p < n ∧ sR S (sQ S p) = p ∧ grS S p = -1)
theorem m_bare {t : Hp} {S : Sn} (hW : WF S) (hM : MA t S) : md_bareOf t = some (bs (brS S (sN S))) := by
  have hW' := hW
  have hM' := hM.1
  obtain ⟨hK, hL, hP, hN, hT, hR⟩ := hW'
  obtain ⟨c0, c1, c2, c3, cT, cR, cH⟩ := hM'
  unfold md_bareOf
  have h0 : bs (brS S 0) = 0 := by
    refine (bs_congr (d := fun _ => false) ?_).trans bs_zero
    intro k _ _
    unfold brS
    apply decide_eq_false
    omega
  have hit := lp_fn (body := md_bareOf_b1 t) (s0 := (0, 0)) (fun i => (bs (brS S i), i)) (sN S) (bs (brS S (sN S))) (by omega) (by omega) (by rw [h0]) (fun i a b => by
    have hr := hR i a b
    have c179 := (cR i a b).1
    have c183 := hM.2 i a b
    have hgi := grS_in S (sR S i)
    by_cases q : grS S (sR S i) = -1
    · have z : bs (brS S (i + 1)) = ior (bs (brS S i)) (ishl 1 (sR S i)) := by
        rw [bs_shl _ hr.1 (by omega), bs_ior]
        apply bs_congr
        intro k k0 k1
        unfold brS
        by_cases e : k = sR S i
        · subst e
          rw [hr.2.2]
          simp [q, a]
          omega
        · have e2 : (k == sR S i) = false := by simp [e]
          rw [e2, Bool.or_false]
          apply decide_eq_decide.mpr
          constructor
          · intro ⟨g1, g2, g3, g4⟩
            refine ⟨g1, ?_, g3, g4⟩
            have : sQ S k ≠ i := by intro z; rw [z] at g3; exact e g3.symm
            omega
          · intro ⟨g1, g2, g3, g4⟩
            exact ⟨g1, by omega, g3, g4⟩
      rw [z]
      simp (disch := omega) only [md_bareOf_b1, c3, c179, c183, wr_id, if_pos, if_true, chk_t, bd_some, q]
    · have z : bs (brS S (i + 1)) = ior (bs (brS S i)) 0 := by
        have z0 : ior (bs (brS S i)) 0 = ior (bs (brS S i)) (bs (fun _ => false)) := by rw [bs_zero]
        rw [z0, bs_ior]
        apply bs_congr
        intro k k0 k1
        unfold brS
        rw [Bool.or_false]
        apply decide_eq_decide.mpr
        constructor
        · intro ⟨g1, g2, g3, g4⟩
          refine ⟨g1, ?_, g3, g4⟩
          have : sQ S k ≠ i := by
            intro z
            rw [z] at g3
            rw [← g3] at g4
            exact q g4
          omega
        · intro ⟨g1, g2, g3, g4⟩
          exact ⟨g1, by omega, g3, g4⟩
      rw [z]
      simp (disch := omega) only [md_bareOf_b1, c3, c179, c183, wr_id, if_pos, if_neg, chk_t, bd_some]) (by
    simp (disch := omega) only [md_bareOf_b1, c3, wr_id, if_neg])
  rw [hit]; rfl
theorem brS_full {S : Sn} (hW : WF S) (hF : Full S) : bs (brS S (sN S)) = bs (gwS S (-1)) := by
  apply bs_congr
  intro k k0 k1
  unfold brS gwS upto
  by_cases e : k < sP S
  · have hq := hF.2 k k0 e
    have hN := hF.1
    simp only [e, decide_true, Bool.true_and]
    apply decide_eq_decide.mpr
    exact ⟨fun g => g.2.2.2, fun g => ⟨hq.1, by omega, hq.2.2, g⟩⟩
  · simp only [e, decide_false, Bool.false_and]
    apply decide_eq_false
    intro ⟨g1, g2, g3, g4⟩
    have := hW.2.2.2.2.2 (sQ S k) g1 g2
    omega
theorem m_growers {t : Hp} {S : Sn} (hW : WF S) (hF : Full S) (hM : MA t S) {k : Int} (hk : -1 ≤ k ∧ k < 5) : md_growersOf t k = some (bs (gwS S k)) := by
  have hP := hW.2.2.1
  have c2 := hM.1.2.2.1
  unfold md_growersOf
  have hit := lp_fn (body := md_growersOf_b1 t k) (s0 := (0, 0)) (fun i => (bs (upto i (fun p => decide (grS S p = k))), i)) (sP S) (bs (gwS S k)) (by omega) (by omega) (by rw [upto0]) (fun i a b => by
    have hgi := grS_in S i
    have hg := MA_g hF hM (p := i) ⟨a, b⟩
    simp (disch := omega) only [md_growersOf_b1, md_people, bd_some, c2, hg, wr_id, if_pos, chk_t, ← bs_up' _ a (show i < 6 by omega), decide_eq_true_eq]) (by
    simp (disch := omega) only [md_growersOf_b1, md_people, bd_some, c2, wr_id, if_neg]
    rfl)
  rw [hit]; rfl
