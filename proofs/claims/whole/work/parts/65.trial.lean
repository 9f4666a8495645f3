/-! Layer 2: what if, in the first season -/
theorem sh63 : sh 63 = (13, 10) := by decide +kernel
theorem sh19 : sh 19 = (13, 10) := by decide +kernel
def Rdy (h F : Hp) : Prop := Mf h F ∧ F 0 11 = 0
theorem c_rdy {h m : Hp} (hM : Mf h m) : ∃ F, Rdy h F ∧ ∀ s, 0 ≤ s → s < 13 → sf_seasonAt m s = some (63 + 8 * s.toNat, F) := by
  obtain ⟨F, hF⟩ := s_at hM.1
  refine ⟨F, ⟨⟨hF.1, fun a x y => ?_⟩, hF.2.1⟩, fun s a b => (hF.2.2.1 s a b).1⟩
  rw [hF.2.2.2.2.1 a (by omega) (by omega)]; exact hM.2 a x y
theorem rdy_at {h F : Hp} (hR : Rdy h F) {s : Int} (hs : 0 ≤ s ∧ s < 13) : sf_seasonAt F s = some (63 + 8 * s.toNat, F) := by
  have z := hR.2
  unfold sf_seasonAt
  simp (disch := omega) only [z, wr_id, if_true, bd_some, chk_t]
theorem rdy_0 {h F : Hp} (hR : Rdy h F) : sf_seasonAt F 0 = some (63, F) := rdy_at hR (s := 0) (by omega)
theorem rdy_ca {h F : Hp} (hR : Rdy h F) {s : Nat} (hs : s < 13) : CA F (63 + 8 * s) (Sea h s) := by
  have := hR.1.1.2.2.2.1 hR.2 s hs
  rw [Mf_Sea hR.1] at this
  exact this
theorem rdy_c0 {h F : Hp} (hR : Rdy h F) : CA F 63 (Sea h 0) := rdy_ca hR (s := 0) (by omega)
theorem rdy_tr {h F F' : Hp} (hR : Rdy h F) (hf : ∀ a, (a < 19 ∨ 26 < a) → F' a = F a) : Rdy h F' :=
  ⟨Mf_fx hR.1 ⟨fun a ha => hf a (by unfold scr at ha; omega), by rw [hf 167 (by omega)], by rw [hf 167 (by omega)], by rw [hf 167 (by omega)]⟩, by rw [hf 0 (by omega)]; exact hR.2⟩
theorem Mf_9 {h F : Hp} (hR : Mf h F) : F 9 = h 9 := hR.2 9 (by omega) (by omega)
theorem Mf_rfl {h : Hp} (hI : INV h) : Mf h h := ⟨hI, fun _ _ _ => rfl⟩
theorem Mf_up {h m : Hp} (hM : Mf h m) {j v : Int} (h1 : j ≠ 6) (h2 : j ≠ 14) (h3 : j ≠ 15) : Mf h (up m 167 j v) := Mf_fx hM (FX_167 m h1 h2 h3)
theorem Mf_scr {h t u : Hp} (hM : Mf h t) (hf : ∀ a, (a < 178 ∨ 185 < a) → u a = t a) : Mf h u :=
  Mf_fx hM ⟨fun a ha => hf a (by unfold scr at ha; omega), by rw [hf 167 (by omega)], by rw [hf 167 (by omega)], by rw [hf 167 (by omega)]⟩
/-! a season with other hid hates, with another taste -/
def wH (S : Sn) (H : Int → Int → Bool) : Sn := (sK S, sL S, sP S, sN S, sT S, sR S, sQ S, H)
def tdS (p k n : Int) (S : Sn) : Sn := (sK S, sL S, sP S, sN S, (fun i => if i = p * 5 + k then n else sT S i), sR S, sQ S, sH S)
theorem wH_ok {S : Sn} (H : Int → Int → Bool) (hW : WF S) (hF : Full S) : WF (wH S H) ∧ Full (wH S H) := ⟨hW, hF⟩
theorem td_ok {S : Sn} {p k n : Int} (hn : -9 ≤ n ∧ n ≤ 9) (hW : WF S) (hF : Full S) : WF (tdS p k n S) ∧ Full (tdS p k n S) := by
  obtain ⟨hK, hL, hP, hN, hT, hR⟩ := hW
  refine ⟨⟨hK, hL, hP, hN, ?_, hR⟩, hF⟩
  intro i
  show -9 ≤ (if i = p * 5 + k then n else sT S i) ∧ (if i = p * 5 + k then n else sT S i) ≤ 9
  split
  · exact hn
  · exact hT i
theorem CP_wH {h h' : Hp} {o : Nat} {S : Sn} (hC : CP h o S) {H : Int → Int → Bool} (hf : ∀ a, o ≤ a → a ≤ o + 2 → h' a = h a) (h3 : ∀ p, 0 ≤ p → p < sP S → h' (o + 3) p = bs (H p)) : CP h' o (wH S H) := by
  obtain ⟨c0, c1, c2, cT, cR, cH⟩ := hC
  unfold CP
  rw [hf o (by omega) (by omega), hf (o + 1) (by omega) (by omega), hf (o + 2) (by omega) (by omega)]
  exact ⟨c0, c1, c2, cT, cR, h3⟩
theorem CP_td {h : Hp} {o : Nat} {S : Sn} (hC : CP h o S) {p k n : Int} : CP (up h (o + 1) (p * 5 + k) n) o (tdS p k n S) := by
  obtain ⟨c0, c1, c2, cT, cR, cH⟩ := hC
  unfold CP
  rw [up_nk (show o ≠ o + 1 by omega), up_nk (show o + 2 ≠ o + 1 by omega), up_nk (show o + 3 ≠ o + 1 by omega)]
  refine ⟨c0, c1, c2, ?_, cR, cH⟩
  intro i a b
  show _ = if i = p * 5 + k then n else sT S i
  by_cases z : i = p * 5 + k
  · rw [z, up_eq, if_pos rfl]
  · rw [up_ni z, if_neg z]; exact cT i a b
theorem MB_wH {h h' : Hp} {S : Sn} (hC : MB h S) {H : Int → Int → Bool} (hf : ∀ a, a ≠ 181 → h' a = h a) (h3 : ∀ p, 0 ≤ p → p < sP S → h' 181 p = bs (H p)) : MB h' (wH S H) := by
  obtain ⟨c0, c1, c2, c3, cT, cR⟩ := hC
  unfold MB
  rw [hf 174 (by omega), hf 167 (by omega), hf 178 (by omega), hf 179 (by omega), hf 180 (by omega), hf 182 (by omega)]
  refine ⟨c0, c1, c2, c3, cT, ?_⟩
  intro x a b
  have cx := cR x a b
  exact ⟨cx.1, cx.2.1, h3 x a b, cx.2.2.2⟩
theorem MB_td {h : Hp} {S : Sn} (hC : MB h S) {p k n : Int} : MB (up h 178 (p * 5 + k) n) (tdS p k n S) := by
  obtain ⟨c0, c1, c2, c3, cT, cR⟩ := hC
  unfold MB
  rw [up_nk (show (174 : Nat) ≠ 178 by omega), up_nk (show (167 : Nat) ≠ 178 by omega), up_nk (show (179 : Nat) ≠ 178 by omega), up_nk (show (180 : Nat) ≠ 178 by omega), up_nk (show (181 : Nat) ≠ 178 by omega), up_nk (show (182 : Nat) ≠ 178 by omega)]
  refine ⟨c0, c1, c2, c3, ?_, cR⟩
  intro i a b
  show _ = if i = p * 5 + k then n else sT S i
  by_cases z : i = p * 5 + k
  · rw [z, up_eq, if_pos rfl]
  · rw [up_ni z, if_neg z]; exact cT i a b
/-! the class tries -/
theorem c_trial {h m : Hp} (hM : Mf h m) : ∃ F G, Rdy h F ∧ sf_seasonAt m 0 = some (63, F) ∧ sn_takeFrom F 19 63 = some G ∧ CP G 19 (Sea h 0) ∧ ∀ a, (a < 19 ∨ 22 < a) → G a = F a := by
  obtain ⟨F, hR, hs⟩ := c_rdy hM
  have ca := rdy_c0 hR
  have hP := (seN_ok (Mf_L9 hM) 0).1.2.2.1
  have eS := Mf_Sea hM 0
  have hP' : sP (Sea h 0) ≤ 6 := by rw [← eS]; exact hP.2
  obtain ⟨G, e, k, f⟩ := c_takeFrom (o := 19) hP' ca.1 (by omega)
  exact ⟨F, G, hR, hs 0 (by omega) (by omega), e, k, fun a ha => f a (by omega)⟩
theorem c_set {h F G : Hp} (hR : Rdy h F) (hf : ∀ a, (a < 19 ∨ 22 < a) → G a = F a) {S : Sn} (hW : WF S) (hF : Full S) (hC : CP G 19 S) : ∃ m, sn_settle G 19 = some m ∧ CA m 19 S ∧ Rdy h m := by
  obtain ⟨m, e, k, f⟩ := c_settle hW hF hC
  exact ⟨m, e, k, rdy_tr hR (fun a ha => by rw [f a (by omega), hf a (by omega)])⟩
theorem c_ifCh {h m : Hp} (hI : INV h) (hM : Mf h m) {p q : Int} (hp : 0 ≤ p ∧ p < h 9 5) (hq : 0 ≤ q ∧ q < h 9 5) : ∃ m', sf_ifChanged m p q = some (19, m') ∧ CA m' 19 (swS p q (Sea h 0)) ∧ Rdy h m' := by
  obtain ⟨sW, sF, eK, eL, eP, eN⟩ := Sea_ok hI 0
  obtain ⟨F, G, hR, e0, e1, k1, f1⟩ := c_trial hM
  obtain ⟨G2, e2, k2, f2⟩ := c_change sW sF k1 (p := p) (q := q) (by omega) (by omega)
  have ok := swS_ok sW sF (p := p) (q := q) (by omega) (by omega)
  obtain ⟨m', e3, k3, hR'⟩ := c_set (G := G2) hR (fun a ha => by rw [f2 a (by omega), f1 a ha]) ok.1 ok.2 k2
  refine ⟨m', ?_, k3, hR'⟩
  unfold sf_ifChanged
  rw [e0, bd_some]
  dsimp only
  rw [chk_t sh63, e1, bd_some, e2, bd_some, e3, bd_some]
def hvS (p : Int) (c : Int → Bool) (S : Sn) : Sn := wH S (fun r j => if r = p then (sH S p j || c j) else sH S r j)
theorem c_ifHid {h m : Hp} (hI : INV h) (hM : Mf h m) {p : Int} (hp : 0 ≤ p ∧ p < h 9 5) (c : Int → Bool) : ∃ m', sf_ifHid m p (bs c) = some (19, m') ∧ CA m' 19 (hvS p c (Sea h 0)) ∧ Rdy h m' := by
  obtain ⟨sW, sF, eK, eL, eP, eN⟩ := Sea_ok hI 0
  have lP := (INV_l hI).2.2.2.2.2.1.2
  obtain ⟨F, G, hR, e0, e1, k1, f1⟩ := c_trial hM
  have g22 := k1.2.2.2.2.2 p hp.1 (by omega)
  have k2 : CP (up G 22 p (bs (fun j => sH (Sea h 0) p j || c j))) 19 (hvS p c (Sea h 0)) := by
    refine CP_wH k1 (fun a x y => up_nk (by omega)) (fun r x y => ?_)
    by_cases z : r = p
    · rw [z, up_ik rfl]; simp only [if_true]
    · rw [up_ni z]; simp only [z, if_false]; exact k1.2.2.2.2.2 r x y
  have ok := wH_ok (fun r j => if r = p then (sH (Sea h 0) p j || c j) else sH (Sea h 0) r j) sW sF
  obtain ⟨m', e3, k3, hR'⟩ := c_set hR (fun a ha => by rw [up_nk (by omega), f1 a ha]) ok.1 ok.2 k2
  refine ⟨m', ?_, k3, hR'⟩
  have wp : wr p = p := wr_id (by omega)
  unfold sf_ifHid
  rw [e0, bd_some]
  dsimp only
  rw [chk_t sh63, e1, bd_some, wp, chk_t (show 0 ≤ p ∧ p < 6 by omega), chk_t (show 0 ≤ p ∧ p < 6 by omega), lt_eq, show G 22 p = bs (sH (Sea h 0) p) from g22, bs_ior, e3, bd_some]
theorem c_sumT {h m : Hp} (hI : INV h) (hM : Mf h m) {p k n : Int} (hp : 0 ≤ p ∧ p < h 9 5) (hk : 0 ≤ k ∧ k < h 9 1) (hn : -9 ≤ n ∧ n ≤ 9) : ∃ m', sf_sumIfTold m p k n = some (suS (tdS p k n (Sea h 0)), m') ∧ Rdy h m' := by
  obtain ⟨sW, sF, eK, eL, eP, eN⟩ := Sea_ok hI 0
  have lP := (INV_l hI).2.2.2.2.2.1.2
  have lK := (INV_l hI).2.1.2
  obtain ⟨F, G, hR, e0, e1, k1, f1⟩ := c_trial hM
  have ok := td_ok (p := p) (k := k) hn sW sF
  obtain ⟨m', e3, k3, hR'⟩ := c_set hR (fun a ha => by rw [up_nk (by omega), f1 a ha]) ok.1 ok.2 (CP_td k1 (p := p) (k := k) (n := n))
  refine ⟨m', ?_, hR'⟩
  have wp : wr (p * 5 + k) = p * 5 + k := wr_id (by omega)
  unfold sf_sumIfTold
  rw [e0, bd_some]
  dsimp only
  rw [chk_t sh63, e1, bd_some, wp, chk_t (show 0 ≤ p * 5 + k ∧ p * 5 + k < 30 by omega), lt_eq, e3, bd_some, c_sum ok.1 k3, bd_some]
def gtS (x y p q : Int) (S : Sn) : Sn := wH S (fun r j => if (x = 1 ∧ r = p) ∨ (y = 1 ∧ r = q) then decide (j < 5) else sH S r j)
def gvS (x y p q : Int) (S : Sn) : Int := shS (gtS x y p q S) p - x * 2
theorem gt_comm (x y p q : Int) (S : Sn) : gtS x y p q S = gtS y x q p S := by
  unfold gtS
  congr 1
  funext r j
  have : ((x = 1 ∧ r = p) ∨ (y = 1 ∧ r = q)) ↔ ((y = 1 ∧ r = q) ∨ (x = 1 ∧ r = p)) := Or.comm
  simp only [this]
theorem bs31 : bs (fun j => decide (j < 5)) = 31 := by decide
theorem c_got {h m : Hp} (hI : INV h) (hM : Mf h m) {p q x y : Int} (hp : 0 ≤ p ∧ p < h 9 5) (hq : 0 ≤ q ∧ q < h 9 5) (hx : 0 ≤ x ∧ x ≤ 1) (hy : 0 ≤ y ∧ y ≤ 1) : ∃ m', sf_gotBy m p q x y = some (gvS x y p q (Sea h 0), m') ∧ Mf h m' := by
  obtain ⟨sW, sF, eK, eL, eP, eN⟩ := Sea_ok hI 0
  have lP := (INV_l hI).2.2.2.2.2.1.2
  obtain ⟨F, G, hR, e0, e1, k1, f1⟩ := c_trial hM
  have wp : wr p = p := wr_id (by omega)
  have wq : wr q = q := wr_id (by omega)
  have wx : wr x = x := wr_id (by omega)
  have wy : wr y = y := wr_id (by omega)
  have w1 : wr 1 = 1 := rfl
  obtain ⟨G1, a1, a2, a3⟩ : ∃ G1, (if x = 1 then chk (0 ≤ p ∧ p < 6) (lt (up G 22 p 31) (fun h5 => some h5)) else some G) = some G1 ∧ (∀ a, a ≠ 22 → G1 a = G a) ∧ ∀ r, 0 ≤ r → r < sP (Sea h 0) → G1 22 r = bs (fun j => if x = 1 ∧ r = p then decide (j < 5) else sH (Sea h 0) r j) := by
    by_cases z : x = 1
    · refine ⟨up G 22 p 31, by rw [if_pos z, chk_t (by omega), lt_eq], fun a ha => up_nk ha, fun r u v => ?_⟩
      by_cases z2 : r = p
      · rw [z2, up_eq]; simp only [z, true_and, if_true]; exact bs31.symm
      · rw [up_ni z2]; simp only [z2, and_false, if_false]; exact k1.2.2.2.2.2 r u v
    · refine ⟨G, by rw [if_neg z], fun _ _ => rfl, fun r u v => ?_⟩
      simp only [z, false_and, if_false]; exact k1.2.2.2.2.2 r u v
  obtain ⟨G2, b1, b2, b3⟩ : ∃ G2, (if y = 1 then chk (0 ≤ q ∧ q < 6) (lt (up G1 22 q 31) (fun h5 => some h5)) else some G1) = some G2 ∧ (∀ a, a ≠ 22 → G2 a = G1 a) ∧ ∀ r, 0 ≤ r → r < sP (Sea h 0) → G2 22 r = bs (fun j => if (x = 1 ∧ r = p) ∨ (y = 1 ∧ r = q) then decide (j < 5) else sH (Sea h 0) r j) := by
    by_cases z : y = 1
    · refine ⟨up G1 22 q 31, by rw [if_pos z, chk_t (by omega), lt_eq], fun a ha => up_nk ha, fun r u v => ?_⟩
      by_cases z2 : r = q
      · rw [z2, up_eq]; simp only [z, true_and, or_true, if_true]; exact bs31.symm
      · rw [up_ni z2]; simp only [z2, and_false, or_false]; exact a3 r u v
    · refine ⟨G1, by rw [if_neg z], fun _ _ => rfl, fun r u v => ?_⟩
      simp only [z, false_and, or_false]; exact a3 r u v
  have k2 : CP G2 19 (gtS x y p q (Sea h 0)) := CP_wH k1 (fun a u v => by rw [b2 a (by omega), a2 a (by omega)]) b3
  have ok := wH_ok (fun r j => if (x = 1 ∧ r = p) ∨ (y = 1 ∧ r = q) then decide (j < 5) else sH (Sea h 0) r j) sW sF
  obtain ⟨m', e3, k3, hR'⟩ := c_set hR (fun a ha => by rw [b2 a (by omega), a2 a (by omega), f1 a ha]) ok.1 ok.2 k2
  refine ⟨m', ?_, hR'.1⟩
  have es := c_share k3 (p := p) (show sP (Sea h 0) ≤ 6 by omega) (show 0 ≤ p ∧ p < sP (Sea h 0) by omega)
  unfold sf_gotBy
  rw [e0, bd_some]
  dsimp only
  rw [chk_t sh63, e1, bd_some, wp, wq, wx, wy, w1, a1, bd_some, b1, bd_some, e3, bd_some, es, bd_some]
  rfl
/-! the model tries -/
theorem m_gr {h t : Hp} (hM : Mf h t) {S : Sn} (hW : WF S) (hF : Full S) (hB : MB t S) : ∃ u, md_grow t = some u ∧ MA u S ∧ MB u S ∧ Mf h u := by
  obtain ⟨u, e, k, f⟩ := m_grow hW (MB_MP hW hF hB)
  refine ⟨u, e, k, ?_, Mf_scr hM (fun a ha => f a (by omega))⟩
  obtain ⟨d0, d1, d2, d3, dT, dR⟩ := hB
  unfold MB
  rw [f 174 (by omega), f 167 (by omega), f 178 (by omega), f 179 (by omega), f 180 (by omega), f 181 (by omega), f 182 (by omega)]
  exact ⟨d0, d1, d2, d3, dT, dR⟩
theorem m_hid {h t : Hp} (hI : INV h) (hM : Mf h t) {p : Int} (hp : 0 ≤ p ∧ p < h 9 5) (c : Int → Bool) : ∃ u, md_hasHiding t p (bs c) = some (shS (hvS p c (Sea h 0)) p, u) ∧ MA u (hvS p c (Sea h 0)) ∧ Mf h u := by
  obtain ⟨sW, sF, eK, eL, eP, eN⟩ := Sea_ok hI 0
  have lP := (INV_l hI).2.2.2.2.2.1.2
  obtain ⟨v, e1, kB, mv⟩ := Mf_beg hM
  have g181 := (kB.2.2.2.2.2 p hp.1 (by omega)).2.2.1
  have k2 : MB (up v 181 p (bs (fun j => sH (Sea h 0) p j || c j))) (hvS p c (Sea h 0)) := by
    refine MB_wH kB (fun a x => up_nk x) (fun r x y => ?_)
    by_cases z : r = p
    · rw [z, up_ik rfl]; simp only [if_true]
    · rw [up_ni z]; simp only [z, if_false]; exact (kB.2.2.2.2.2 r x y).2.2.1
  have ok := wH_ok (fun r j => if r = p then (sH (Sea h 0) p j || c j) else sH (Sea h 0) r j) sW sF
  obtain ⟨u, e2, kA, _, mu⟩ := m_gr (Mf_scr mv (fun a ha => up_nk (by omega))) ok.1 ok.2 k2
  refine ⟨u, ?_, kA, mu⟩
  have wp : wr p = p := wr_id (by omega)
  have es := m_has ok.1 ok.2 kA (p := p) (show 0 ≤ p ∧ p < sP (Sea h 0) by omega)
  unfold md_hasHiding
  rw [e1, bd_some, wp, chk_t (show 0 ≤ p ∧ p < 6 by omega), chk_t (show 0 ≤ p ∧ p < 6 by omega), lt_eq, g181, bs_ior, e2, bd_some, es, bd_some]
  rfl
theorem m_getsB {h t : Hp} (hI : INV h) (hM : Mf h t) {p q x y : Int} (hp : 0 ≤ p ∧ p < h 9 5) (hq : 0 ≤ q ∧ q < h 9 5) (hx : 0 ≤ x ∧ x ≤ 1) (hy : 0 ≤ y ∧ y ≤ 1) {o : Int} (ho : 0 ≤ o ∧ o < h 9 5) : ∃ u, md_getsBy t o p q x y = some (shS (gtS x y p q (Sea h 0)) o - 2 * (if o = p then x else y), u) ∧ Mf h u := by
  obtain ⟨sW, sF, eK, eL, eP, eN⟩ := Sea_ok hI 0
  have lP := (INV_l hI).2.2.2.2.2.1.2
  obtain ⟨G, e1, kB, mv⟩ := Mf_beg hM
  have wo : wr o = o := wr_id (by omega)
  have wp : wr p = p := wr_id (by omega)
  have wq : wr q = q := wr_id (by omega)
  have wx : wr x = x := wr_id (by omega)
  have wy : wr y = y := wr_id (by omega)
  have w1 : wr 1 = 1 := rfl
  have k1 : ∀ r, 0 ≤ r → r < sP (Sea h 0) → G 181 r = bs (sH (Sea h 0) r) := fun r u v => (kB.2.2.2.2.2 r u v).2.2.1
  obtain ⟨G1, a1, a2, a3⟩ : ∃ G1, (if x = 1 then chk (0 ≤ p ∧ p < 6) (lt (up G 181 p 31) (fun h5 => some h5)) else some G) = some G1 ∧ (∀ a, a ≠ 181 → G1 a = G a) ∧ ∀ r, 0 ≤ r → r < sP (Sea h 0) → G1 181 r = bs (fun j => if x = 1 ∧ r = p then decide (j < 5) else sH (Sea h 0) r j) := by
    by_cases z : x = 1
    · refine ⟨up G 181 p 31, by rw [if_pos z, chk_t (by omega), lt_eq], fun a ha => up_nk ha, fun r u v => ?_⟩
      by_cases z2 : r = p
      · rw [z2, up_eq]; simp only [z, true_and, if_true]; exact bs31.symm
      · rw [up_ni z2]; simp only [z2, and_false, if_false]; exact k1 r u v
    · refine ⟨G, by rw [if_neg z], fun _ _ => rfl, fun r u v => ?_⟩
      simp only [z, false_and, if_false]; exact k1 r u v
  obtain ⟨G2, b1, b2, b3⟩ : ∃ G2, (if y = 1 then chk (0 ≤ q ∧ q < 6) (lt (up G1 181 q 31) (fun h5 => some h5)) else some G1) = some G2 ∧ (∀ a, a ≠ 181 → G2 a = G1 a) ∧ ∀ r, 0 ≤ r → r < sP (Sea h 0) → G2 181 r = bs (fun j => if (x = 1 ∧ r = p) ∨ (y = 1 ∧ r = q) then decide (j < 5) else sH (Sea h 0) r j) := by
    by_cases z : y = 1
    · refine ⟨up G1 181 q 31, by rw [if_pos z, chk_t (by omega), lt_eq], fun a ha => up_nk ha, fun r u v => ?_⟩
      by_cases z2 : r = q
      · rw [z2, up_eq]; simp only [z, true_and, or_true, if_true]; exact bs31.symm
      · rw [up_ni z2]; simp only [z2, and_false, or_false]; exact a3 r u v
    · refine ⟨G1, by rw [if_neg z], fun _ _ => rfl, fun r u v => ?_⟩
      simp only [z, false_and, or_false]; exact a3 r u v
  have k2 : MB G2 (gtS x y p q (Sea h 0)) := MB_wH kB (fun a u => by rw [b2 a u, a2 a u]) b3
  have ok := wH_ok (fun r j => if (x = 1 ∧ r = p) ∨ (y = 1 ∧ r = q) then decide (j < 5) else sH (Sea h 0) r j) sW sF
  obtain ⟨u, e2, kA, _, mu⟩ := m_gr (Mf_scr mv (fun a ha => by rw [b2 a (by omega), a2 a (by omega)])) ok.1 ok.2 k2
  refine ⟨u, ?_, mu⟩
  have es := m_has ok.1 ok.2 kA (p := o) (show 0 ≤ o ∧ o < sP (Sea h 0) by omega)
  unfold md_getsBy
  rw [e1, bd_some, wo, wp, wq, wx, wy, w1, a1, bd_some, b1, bd_some, e2, bd_some, es, bd_some]
  rfl
theorem m_got {h t : Hp} (hI : INV h) (hM : Mf h t) {p q x y : Int} (hp : 0 ≤ p ∧ p < h 9 5) (hq : 0 ≤ q ∧ q < h 9 5) (hx : 0 ≤ x ∧ x ≤ 1) (hy : 0 ≤ y ∧ y ≤ 1) : ∃ u, md_getsBy t p p q x y = some (gvS x y p q (Sea h 0), u) ∧ Mf h u := by
  obtain ⟨u, e, mu⟩ := m_getsB hI hM hp hq hx hy hp
  refine ⟨u, ?_, mu⟩
  rw [e, if_pos rfl, Int.mul_comm]; rfl
theorem m_got' {h t : Hp} (hI : INV h) (hM : Mf h t) {p q x y : Int} (hp : 0 ≤ p ∧ p < h 9 5) (hq : 0 ≤ q ∧ q < h 9 5) (hx : 0 ≤ x ∧ x ≤ 1) (hy : 0 ≤ y ∧ y ≤ 1) (ne : q ≠ p) : ∃ u, md_getsBy t q p q x y = some (gvS y x q p (Sea h 0), u) ∧ Mf h u := by
  obtain ⟨u, e, mu⟩ := m_getsB hI hM hp hq hx hy hq
  refine ⟨u, ?_, mu⟩
  rw [e, if_neg ne, Int.mul_comm, gt_comm]; rfl
theorem m_allW {h t : Hp} (hI : INV h) (hM : Mf h t) {p k n : Int} (hp : 0 ≤ p ∧ p < h 9 5) (hk : 0 ≤ k ∧ k < h 9 1) (hn : -9 ≤ n ∧ n ≤ 9) : ∃ u, md_allWith t p k n = some (suS (tdS p k n (Sea h 0)), u) ∧ Mf h u := by
  obtain ⟨sW, sF, eK, eL, eP, eN⟩ := Sea_ok hI 0
  have lP := (INV_l hI).2.2.2.2.2.1.2
  have lK := (INV_l hI).2.1.2
  obtain ⟨v, e1, kB, mv⟩ := Mf_beg hM
  have ok := td_ok (p := p) (k := k) hn sW sF
  obtain ⟨u, e2, kA, _, mu⟩ := m_gr (Mf_scr mv (fun a ha => up_nk (by omega))) ok.1 ok.2 (MB_td kB (p := p) (k := k) (n := n))
  refine ⟨u, ?_, mu⟩
  have ee : 5 * p + k = p * 5 + k := by omega
  have wp : wr (p * 5 + k) = p * 5 + k := wr_id (by omega)
  unfold md_allWith
  rw [e1, bd_some, ee, wp, chk_t (show 0 ≤ p * 5 + k ∧ p * 5 + k < 30 by omega), lt_eq, e2, bd_some, m_hasAll ok.1 ok.2 kA, bd_some]
theorem m_allN {h t : Hp} (hI : INV h) (hM : Mf h t) : ∃ u, md_allNow t = some (suS (Sea h 0), u) ∧ Mf h u := by
  obtain ⟨sW, sF, eK, eL, eP, eN⟩ := Sea_ok hI 0
  obtain ⟨u, e1, kB, kA, mu⟩ := Mf_first hM
  refine ⟨u, ?_, mu⟩
  unfold md_allNow
  rw [e1, bd_some, m_hasAll sW sF kA, bd_some]
theorem m_gainO {h t : Hp} (hI : INV h) (hM : Mf h t) {p q w : Int} (hp : 0 ≤ p ∧ p < h 9 5) (hq : 0 ≤ q ∧ q < h 9 5) : ∃ u, md_gainOf t p q w = some (shS (swS p q (Sea h 0)) (if wr w = 0 then p else q) - shS (Sea h 0) (if wr w = 0 then p else q), u) ∧ Mf h u := by
  obtain ⟨sW, sF, eK, eL, eP, eN⟩ := Sea_ok hI 0
  obtain ⟨v, e1, kB, kA, mv⟩ := Mf_first hM
  obtain ⟨v2, e2, k2, f2⟩ := m_change sW sF kB (p := p) (q := q) (by omega) (by omega)
  have ok := swS_ok sW sF (p := p) (q := q) (by omega) (by omega)
  obtain ⟨u, e3, kA3, _, mu⟩ := m_gr (Mf_scr mv (fun a ha => f2 a (by omega) (by omega))) ok.1 ok.2 k2
  refine ⟨u, ?_, mu⟩
  have hw : 0 ≤ (if wr w = 0 then p else q) ∧ (if wr w = 0 then p else q) < sP (Sea h 0) := by split <;> omega
  unfold md_gainOf
  rw [e1, bd_some, m_has sW sF kA hw, bd_some, e2, bd_some, e3, bd_some, m_has ok.1 ok.2 kA3 hw, bd_some]
