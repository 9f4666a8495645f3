/-! Layer 2: orders: the model -/
def rS (S : Sn) (l : List Int) : Sn := (sK S, sL S, sP S, sP S, sT S, rwL l, idL l, sH S)
theorem rS_ok {S : Sn} (hW : WF S) {P : Nat} (eP : (P : Int) = sP S) {l : List Int} (hl : okRow P l = true) : WF (rS S l) ∧ Full (rS S l) := by
  obtain ⟨hK, hL, hP, hN, hT, hR⟩ := hW
  refine ⟨⟨hK, hL, hP, ⟨hP.1, Int.le_refl _⟩, hT, fun x a b => ?_⟩, rfl, fun p a b => ?_⟩
  · have b' : x < sP S := b
    have := okRow_x hl (x := x) (by omega)
    exact ⟨this.1, show rwL l x < sP S by omega, this.2.2.1⟩
  · have b' : p < sP S := b
    have := okRow_x hl (x := p) (by omega)
    exact ⟨Int.natCast_nonneg _, show idL l p < sP S by omega, this.2.2.2.2⟩
theorem dp_rS {S : Sn} (hW : WF S) {P : Nat} (eP : (P : Int) = sP S) {l : List Int} (hl : okRow P l = true) {x : Int} (hx : 0 ≤ x ∧ x < sP S) : dpS (rS S l) (rwL l x) = dcR (rwL l) (sP S) (sL S) x := by
  show dcR (rwL l) (sP S) (sL S) (idL l (rwL l x)) = _
  rw [(okRow_x hl (x := x) (by omega)).2.2.1]
theorem perm_rS {S : Sn} (hW : WF S) {P : Nat} (eP : (P : Int) = sP S) {l : List Int} (hl : okRow P l = true) (f : Int → Int) : sm (sP S) (fun x => f (rwL l x)) = sm (sP S) f :=
  sm_perm hW.2.2.1.1 (Q := idL l) (fun x a b => by have := okRow_x hl (x := x) (by omega); exact ⟨this.1, by omega, this.2.2.1⟩) (fun p a b => by have := okRow_x hl (x := p) (by omega); exact ⟨Int.natCast_nonneg _, by omega, this.2.2.2.2⟩) f
theorem su_rS {S : Sn} (hW : WF S) {P : Nat} (eP : (P : Int) = sP S) {l : List Int} (hl : okRow P l = true) : suS (rS S l) = wsR S (rwL l) (sP S) := by
  have ok := rS_ok hW eP hl
  have hP := hW.2.2.1
  have h1 : suS (rS S l) = sm (sP S) (joS (rS S l)) - sm (sP S) (snS (rS S l)) := by
    have e : suS (rS S l) = sm (sP S) (fun p => joS (rS S l) p + - snS (rS S l) p) := sm_congr hP.1 (fun p _ _ => by show joS (rS S l) p - snS (rS S l) p = _; omega)
    rw [e, sm_add hP.1, sm_neg hP.1]
    omega
  have h2 : sm (sP S) (snS (rS S l)) = sm (sP S) (fun q => stS (rS S l) q (dpS (rS S l) q) (grS (rS S l) q)) := by
    have e : sm (sP S) (snS (rS S l)) = sm (sP S) (fun p => sm (sP S) (fun q => if p = dpS (rS S l) q then stS (rS S l) q p (grS (rS S l) q) else 0)) := sm_congr hP.1 (fun p _ _ => sm_congr hP.1 (fun q _ _ => by
      by_cases z : dpS (rS S l) q = p
      · rw [if_pos z, if_pos z.symm]
      · rw [if_neg z, if_neg (fun y => z y.symm)]))
    rw [e, sm_swap hP.1 hP.1]
    refine sm_congr hP.1 (fun q a b => ?_)
    rw [sm_one hP.1 (dpS (rS S l) q) (fun p => stS (rS S l) q p (grS (rS S l) q))]
    have di := dpS_in ok.1 ok.2 (p := q) ⟨a, b⟩
    have di2 : dpS (rS S l) q < sP S := di.2
    by_cases z : dpS (rS S l) q = -1
    · rw [if_neg (by omega), z]; rfl
    · rw [if_pos (by omega)]
  have h3 : suS (rS S l) = sm (sP S) (fun q => wtS S q (dpS (rS S l) q)) := by
    rw [h1, h2]
    have e : sm (sP S) (fun q => wtS S q (dpS (rS S l) q)) = sm (sP S) (fun q => joS (rS S l) q + - stS (rS S l) q (dpS (rS S l) q) (grS (rS S l) q)) := sm_congr hP.1 (fun q _ _ => by
      show joS (rS S l) q - stS (rS S l) q (dpS (rS S l) q) (grS (rS S l) q) = _
      omega)
    rw [e, sm_add hP.1, sm_neg hP.1]
    omega
  rw [h3, ← perm_rS hW eP hl]
  exact sm_congr hP.1 (fun x a b => by rw [dp_rS hW eP hl ⟨a, b⟩])
theorem ct_rS {S : Sn} (hW : WF S) {P : Nat} (eP : (P : Int) = sP S) {l : List Int} (hl : okRow P l = true) : ct (gwS (rS S l) (-1)) = bsR S (rwL l) (sP S) := by
  have hP := hW.2.2.1
  rw [ct_sm]
  have e1 : sm 6 (fun p => if gwS (rS S l) (-1) p = true then 1 else 0) = sm (sP S) (fun p => if gwS (rS S l) (-1) p = true then 1 else 0) := sm_ext hP.1 hP.2 (fun k a b => by
    have : gwS (rS S l) (-1) k = false := by
      show (decide (k < sP S) && decide (grS (rS S l) k = -1)) = false
      rw [decide_eq_false (by omega)]; rfl
    rw [this]; rfl)
  have e2 : sm (sP S) (fun p => if gwS (rS S l) (-1) p = true then 1 else 0) = sm (sP S) (fun q => baS S q (dpS (rS S l) q)) := sm_congr hP.1 (fun q a b => by
    have : gwS (rS S l) (-1) q = decide (grS (rS S l) q = -1) := by
      show (decide (q < sP S) && decide (grS (rS S l) q = -1)) = _
      rw [decide_eq_true b]; rfl
    rw [this]
    show _ = if grS (rS S l) q = -1 then 1 else 0
    by_cases z : grS (rS S l) q = -1
    · rw [if_pos z, if_pos (decide_eq_true z)]
    · rw [if_neg z, if_neg (by simp [z])])
  rw [e1, e2, ← perm_rS hW eP hl]
  exact sm_congr hP.1 (fun x a b => by rw [dp_rS hW eP hl ⟨a, b⟩])
/-! rows that grow -/
theorem rwL_l {pre : List Int} {p y : Int} (hy : 0 ≤ y ∧ y < pre.length) : rwL (pre ++ [p]) y = rwL pre y := by
  unfold rwL
  rw [List.getD_eq_getElem?_getD, List.getD_eq_getElem?_getD, List.getElem?_append_left (by omega)]
theorem rwL_r {pre : List Int} {p : Int} : rwL (pre ++ [p]) (pre.length : Int) = p := by
  unfold rwL
  rw [List.getD_eq_getElem?_getD, show ((pre.length : Nat) : Int).toNat = pre.length by omega, List.getElem?_append_right (by omega)]
  simp
theorem rwL_in {pre : List Int} {y : Int} (hy : 0 ≤ y ∧ y < pre.length) : rwL pre y ∈ pre := by
  unfold rwL
  rw [List.getD_eq_getElem?_getD, List.getElem?_eq_getElem (by omega)]
  exact List.getElem_mem _
def OdT (t : Hp) (P : Int) (z : Od) : Prop := t 167 28 = z.1 ∧ t 167 29 = z.2.1 ∧ t 167 30 = z.2.2.1 ∧ t 167 31 = z.2.2.2.1 ∧ ∀ x, 0 ≤ x → x < P → t 184 x = z.2.2.2.2 x
/-- the model amid its orders; G: as it began -/
def MO (G t : Hp) (P : Int) (pre : List Int) (z : Od) : Prop := (∀ a, a ≠ 167 → a ≠ 179 → a ≠ 180 → a ≠ 183 → a ≠ 184 → t a = G a) ∧ (∀ j, (j < 28 ∨ 31 < j) → t 167 j = G 167 j) ∧ (∀ y : Int, 0 ≤ y → y < (pre.length : Int) → t 179 y = rwL pre y ∧ t 180 (rwL pre y) = y) ∧ OdT t P z
def OdG (z : Od) : Prop := OdIn z ∨ (z.1 = -100000 ∧ z.2.2.1 = 100000)
theorem od1_G {S : Sn} (hW : WF S) {z : Od} (hz : OdG z) (l : List Int) : OdIn (od1 S z l) := by
  have hP := hW.2.2.1
  have wi : -108 ≤ wsR S (rwL l) (sP S) ∧ wsR S (rwL l) (sP S) ≤ 54 := ws_in hW (rwL l) (n := sP S) (sL S) (i := sP S) (by omega)
  have bi : 0 ≤ bsR S (rwL l) (sP S) ∧ bsR S (rwL l) (sP S) ≤ 6 := bw_in2 S (rwL l) (n := sP S) (sL S) (i := sP S) (by omega)
  rcases hz with e | e
  · exact od1_in hW (Or.inr e) l
  · show (-108 ≤ (if z.1 < wsR S (rwL l) (sP S) then wsR S (rwL l) (sP S) else z.1) ∧ (if z.1 < wsR S (rwL l) (sP S) then wsR S (rwL l) (sP S) else z.1) ≤ 54) ∧ (0 ≤ (if bsR S (rwL l) (sP S) < z.2.2.1 then bsR S (rwL l) (sP S) else z.2.2.1) ∧ (if bsR S (rwL l) (sP S) < z.2.2.1 then bsR S (rwL l) (sP S) else z.2.2.1) ≤ 6)
    rw [if_pos (by omega), if_pos (by omega)]
    exact ⟨wi, bi⟩
theorem fold_G {S : Sn} (hW : WF S) : ∀ (L : List (List Int)) (z : Od), OdG z → OdG (L.foldl (od1 S) z) := by
  intro L
  induction L with
  | nil => intro z hz; exact hz
  | cons l L ih => intro z hz; exact ih _ (Or.inl (od1_G hW hz l))
theorem m_leaf {S : Sn} (hW : WF S) (hF : Full S) {G t : Hp} (hB : MB G S) {P : Nat} (eP : (P : Int) = sP S) {pre : List Int} (hl : okRow P pre = true) {z : Od} (hz : OdG z) (hM : MO G t (sP S) pre z) (F : Hp → Int → Int → Option Hp) (used : Int) : ∃ t', md_ordersFrom_st F t (sP S) used = some t' ∧ MO G t' (sP S) pre (od1 S z pre) := by
  have hP := hW.2.2.1
  have len : pre.length = P := by
    have := ((Bool.and_eq_true _ _).mp hl).1
    simpa using this
  have ok := rS_ok hW eP hl
  obtain ⟨f1, f2, f3, o1, o2, o3, o4, o5⟩ := hM
  obtain ⟨d0, d1, d2, d3, dT, dR⟩ := hB
  have tB : MB t (rS S pre) := by
    unfold MB
    rw [f1 174 (by omega) (by omega) (by omega) (by omega) (by omega), f2 26 (by omega), f1 178 (by omega) (by omega) (by omega) (by omega) (by omega), f1 181 (by omega) (by omega) (by omega) (by omega) (by omega), f1 182 (by omega) (by omega) (by omega) (by omega) (by omega)]
    refine ⟨d0, d1, d2, by rw [d3, hF.1]; rfl, dT, fun x a b => ?_⟩
    have b' : x < sP S := b
    have okx := okRow_x hl (x := x) (by omega)
    have h1 := f3 x a (by omega)
    have h2 := f3 (idL pre x) (Int.natCast_nonneg _) (by omega)
    rw [okx.2.2.2.2] at h2
    exact ⟨h1.1, h2.2, (dR x a b').2.2⟩
  obtain ⟨r, e1, kA, g1⟩ := m_grow ok.1 (MB_MP ok.1 ok.2 tB)
  have e2 := m_hasAll ok.1 ok.2 kA
  rw [su_rS hW eP hl] at e2
  have wi : -108 ≤ wsR S (rwL pre) (sP S) ∧ wsR S (rwL pre) (sP S) ≤ 54 := ws_in hW (rwL pre) (n := sP S) (sL S) (i := sP S) (by omega)
  have bi : 0 ≤ bsR S (rwL pre) (sP S) ∧ bsR S (rwL pre) (sP S) ≤ 6 := bw_in2 S (rwL pre) (n := sP S) (sL S) (i := sP S) (by omega)
  obtain ⟨N, eN⟩ : ∃ N, N = wsR S (rwL pre) (sP S) := ⟨_, rfl⟩
  obtain ⟨B, eBB⟩ : ∃ B, B = bsR S (rwL pre) (sP S) := ⟨_, rfl⟩
  rw [← eN] at e2 wi
  rw [← eBB] at bi
  have zi : -100000 ≤ z.1 ∧ z.1 ≤ 54 := by rcases hz with q | q; (have := q.1; omega); omega
  have zf : 0 ≤ z.2.2.1 ∧ z.2.2.1 ≤ 100000 := by rcases hz with q | q; (have := q.2; omega); omega
  have r28 : r 167 28 = z.1 := by rw [g1 167 (by omega)]; exact o1
  -- the best
  obtain ⟨s, es, s1, s2, s3, s4, s5⟩ : ∃ s, (if wr (r 167 28) < wr N then lt (up r 167 28 N) (fun h6 => lt (up h6 167 29 0) (fun h7 => Option.bind (iter FU (md_ordersFrom_b1 (sP S)) (0, h7)) (fun s13 => some s13))) else some r) = some s ∧ (∀ a, a ≠ 167 → a ≠ 184 → s a = r a) ∧ (∀ j, j ≠ 28 → j ≠ 29 → s 167 j = r 167 j) ∧ s 167 28 = (if z.1 < N then N else z.1) ∧ s 167 29 = (if z.1 < N then 0 else z.2.1) ∧ ∀ x, 0 ≤ x → x < sP S → s 184 x = (if z.1 < N then rwL pre x else z.2.2.2.2 x) := by
    rw [r28, w32 (show -1000000 ≤ z.1 ∧ z.1 ≤ 1000000 by omega), w32 (show -1000000 ≤ N ∧ N ≤ 1000000 by omega)]
    by_cases y : z.1 < N
    · obtain ⟨q, q1, q2, q3⟩ := lp (body := md_ordersFrom_b1 (sP S)) (s0 := (0, up (up r 167 28 N) 167 29 0)) (Q := fun q => (∀ a, a ≠ 184 → q a = up (up r 167 28 N) 167 29 0 a) ∧ ∀ x, 0 ≤ x → x < sP S → q 184 x = rwL pre x) (fun i q => q.1 = i ∧ (∀ a, a ≠ 184 → q.2 a = up (up r 167 28 N) 167 29 0 a) ∧ ∀ x, 0 ≤ x → x < i → q.2 184 x = rwL pre x) (sP S) hP.1 (by omega) ⟨rfl, fun _ _ => rfl, fun x a b => by omega⟩ (fun i q a b hi => by
        obtain ⟨c, g⟩ := q
        obtain ⟨w1, w2, w3⟩ := hi
        dsimp only at w1 w2 w3
        subst w1
        have g179 : g 179 c = rwL pre c := by
          rw [w2 179 (by omega), up_nk (by omega), up_nk (by omega), g1 179 (by omega)]
          exact (f3 c a (by omega)).1
        refine ⟨(c + 1, up g 184 c (rwL pre c)), ?_, rfl, fun a' h1 => by dsimp only; rw [up_nk h1]; exact w2 a' h1, fun x h1 h2 => ?_⟩
        · unfold md_ordersFrom_b1
          dsimp only
          rw [w32 (show -1000000 ≤ c ∧ c ≤ 1000000 by omega), w32 (show -1000000 ≤ sP S ∧ sP S ≤ 1000000 by omega), if_pos b, chk_t (by omega), chk_t (by omega), lt_eq, g179]
        · dsimp only
          by_cases v : x = c
          · rw [v, up_eq]
          · rw [up_ni v]; exact w3 x h1 (by omega)) (fun q hi => by
        obtain ⟨c, g⟩ := q
        obtain ⟨w1, w2, w3⟩ := hi
        dsimp only at w1 w2 w3
        subst w1
        refine ⟨g, ?_, w2, w3⟩
        unfold md_ordersFrom_b1
        dsimp only
        rw [if_neg (Int.lt_irrefl _)])
      refine ⟨q, by rw [if_pos y, lt_eq, lt_eq, q1, bd_some], fun a h1 h2 => by rw [q2 a h2, up_nk h1, up_nk h1], fun j h1 h2 => by rw [q2 167 (by omega), up_ni h2, up_ni h1], by rw [if_pos y, q2 167 (by omega), up_ni (by omega), up_eq], by rw [if_pos y, q2 167 (by omega), up_eq], fun x a b => by rw [if_pos y]; exact q3 x a b⟩
    · refine ⟨r, by rw [if_neg y], fun _ _ _ => rfl, fun _ _ _ => rfl, by rw [if_neg y]; exact r28, by rw [if_neg y, g1 167 (by omega)]; exact o2, fun x a b => by rw [if_neg y, g1 184 (by omega)]; exact o5 x a b⟩
  obtain ⟨W, eW⟩ : ∃ W, W = (if z.1 < N then N else z.1) := ⟨_, rfl⟩
  have Wi : -100000 ≤ W ∧ W ≤ 54 := by rw [eW]; split <;> omega
  rw [← eW] at s3
  obtain ⟨h16, eh⟩ : ∃ h16, h16 = up s 167 29 (s 167 29 + (if wr N = wr (s 167 28) then 1 else 0)) := ⟨_, rfl⟩
  have kA2 : MA h16 (rS S pre) := MA_fr kA (by rw [eh, up_nk (by omega)]; exact s1 174 (by omega) (by omega)) (by rw [eh, up_ni (by omega)]; exact s2 26 (by omega) (by omega)) (fun a x y => by rw [eh, up_nk (by omega)]; exact s1 a (by omega) (by omega))
  have e3 := m_bare ok.1 kA2
  rw [brS_full ok.1 ok.2] at e3
  have e4 := sizeOf_bs h16 (gwS (rS S pre) (-1))
  rw [ct_rS hW eP hl, ← eBB] at e4
  have h30 : h16 167 30 = z.2.2.1 := by rw [eh, up_ni (by omega), s2 30 (by omega) (by omega), g1 167 (by omega)]; exact o3
  have h31 : ∀ v, up h16 167 30 v 167 31 = z.2.2.2.1 := fun v => by rw [up_ni (by omega), eh, up_ni (by omega), s2 31 (by omega) (by omega), g1 167 (by omega)]; exact o4
  have e29 : s 167 29 + (if wr N = wr (s 167 28) then 1 else 0) = (od1 S z pre).2.1 := by
    show _ = (if wsR S (rwL pre) (sP S) = (if z.1 < wsR S (rwL pre) (sP S) then wsR S (rwL pre) (sP S) else z.1) then (if z.1 < wsR S (rwL pre) (sP S) then 0 else z.2.1) + 1 else (if z.1 < wsR S (rwL pre) (sP S) then 0 else z.2.1))
    rw [← eN, s4, s3, w32 (show -1000000 ≤ N ∧ N ≤ 1000000 by omega), w32 (show -1000000 ≤ W ∧ W ≤ 1000000 by omega), ← eW]
    by_cases y : N = W
    · rw [if_pos y, if_pos y]
    · rw [if_neg y, if_neg y, Int.add_zero]
  refine ⟨up (up h16 167 30 (if B < z.2.2.1 then B else z.2.2.1)) 167 31 (z.2.2.2.1 + (if B = 0 then 1 else 0)), ?_, fun a h1 h2 h3 h4 h5 => ?_, fun j hj => ?_, fun y a b => ?_, ?_, ?_, ?_, ?_, fun x a b => ?_⟩
  · have p4 : t 174 4 = sP S := tB.2.2.1
    unfold md_ordersFrom_st md_people
    rw [bd_some, p4, if_pos rfl, e1, bd_some, e2, bd_some, es, bd_some, lt_eq, ← eh, e3, bd_some, e4, bd_some, lt_eq, h30, w32 (show -1000000 ≤ B ∧ B ≤ 1000000 by omega), w32 (show -1000000 ≤ z.2.2.1 ∧ z.2.2.1 ≤ 1000000 by omega), lt_eq, h31]
  · rw [up_nk h1, up_nk h1, eh, up_nk h1, s1 a h1 h5, g1 a h4]; exact f1 a h1 h2 h3 h4 h5
  · rw [up_ni (by omega), up_ni (by omega), eh, up_ni (by omega), s2 j (by omega) (by omega), g1 167 (by omega)]; exact f2 j hj
  · rw [up_nk (by omega), up_nk (by omega), up_nk (by omega), up_nk (by omega), eh, up_nk (by omega), up_nk (by omega), s1 179 (by omega) (by omega), s1 180 (by omega) (by omega), g1 179 (by omega), g1 180 (by omega)]
    exact f3 y a b
  · rw [up_ni (by omega), up_ni (by omega), eh, up_ni (by omega), s3, eW, eN]; rfl
  · rw [up_ni (by omega), up_ni (by omega), eh, up_eq, e29]
  · rw [up_ni (by omega), up_eq, eBB]; rfl
  · rw [up_eq, eBB]
    show _ = if bsR S (rwL pre) (sP S) = 0 then z.2.2.2.1 + 1 else z.2.2.2.1
    by_cases y : bsR S (rwL pre) (sP S) = 0
    · rw [if_pos y, if_pos y]
    · rw [if_neg y, if_neg y, Int.add_zero]
  · rw [up_nk (by omega), up_nk (by omega), eh, up_nk (by omega), s5 x a b, eN]
    show _ = (if z.1 < wsR S (rwL pre) (sP S) then rwL pre else z.2.2.2.2) x
    split <;> rfl
def pmF (P k : Nat) (pre : List Int) (p : Nat) : List (List Int) := if (p : Int) ∈ pre then [] else pm P k (pre ++ [(p : Int)])
theorem pm_succ (P k : Nat) (pre : List Int) : pm P (k + 1) pre = (List.range P).flatMap (pmF P k pre) := rfl
theorem fm_succ (f : Nat → List (List Int)) (i : Nat) : (List.range (i + 1)).flatMap f = (List.range i).flatMap f ++ f i := by
  rw [List.range_succ, List.flatMap_append]
  simp
theorem m_ords {S : Sn} (hW : WF S) (hF : Full S) {G : Hp} (hB : MB G S) {P : Nat} (eP : (P : Int) = sP S) : ∀ (k n : Nat) (pre : List Int) (t : Hp) (z : Od), k < n → pre.length + k = P → (∀ l, l ∈ pm P k pre → l ∈ pm P P []) → OdG z → MO G t (sP S) pre z → ∃ t', md_ordersFrom n t (pre.length : Int) (bs (fun q => decide (q ∈ pre))) = some t' ∧ MO G t' (sP S) pre ((pm P k pre).foldl (od1 S) z) := by
  have hP := hW.2.2.1
  have okA : okC P (pm P P []) = true := dc_ok ⟨P, by omega⟩
  intro k
  induction k with
  | zero =>
    intro n pre t z hn hl hs hz hM
    obtain ⟨n', en⟩ : ∃ n', n = n' + 1 := ⟨n - 1, by omega⟩
    subst en
    have hrow : okRow P pre = true := okC_mem okA pre (hs pre (List.mem_singleton.mpr rfl))
    have ex : (pre.length : Int) = sP S := by omega
    rw [ex]
    exact m_leaf hW hF hB eP hrow hz hM (md_ordersFrom n') (bs (fun q => decide (q ∈ pre)))
  | succ k ih =>
    intro n pre t z hn hl hs hz hM
    obtain ⟨n', en⟩ : ∃ n', n = n' + 1 := ⟨n - 1, by omega⟩
    subst en
    show ∃ t', md_ordersFrom_st (md_ordersFrom n') t (pre.length : Int) (bs (fun q => decide (q ∈ pre))) = some t' ∧ _
    have p4 : ∀ q : Hp, (∀ a, a ≠ 167 → a ≠ 179 → a ≠ 180 → a ≠ 183 → a ≠ 184 → q a = G a) → q 174 4 = sP S := fun q hq => by rw [hq 174 (by omega) (by omega) (by omega) (by omega) (by omega)]; exact hB.2.2.1
    obtain ⟨t', e, r⟩ := lp (body := md_ordersFrom_b2 (pre.length : Int) (bs (fun q => decide (q ∈ pre))) (md_ordersFrom n')) (s0 := (0, t)) (Q := fun t' => MO G t' (sP S) pre ((pm P (k + 1) pre).foldl (od1 S) z)) (fun i s => s.1 = i ∧ MO G s.2 (sP S) pre (((List.range i.toNat).flatMap (pmF P k pre)).foldl (od1 S) z)) (sP S) hP.1 (by omega) ⟨rfl, hM⟩ (fun i s a b hi => by
      obtain ⟨p, q⟩ := s
      obtain ⟨q1, q2⟩ := hi
      dsimp only at q1 q2
      subst q1
      obtain ⟨c, ec⟩ : ∃ c : Nat, c = p.toNat := ⟨_, rfl⟩
      have ec' : (c : Int) = p := by omega
      rw [← ec] at q2
      have en : (p + 1).toNat = c + 1 := by omega
      have zg : OdG (((List.range c).flatMap (pmF P k pre)).foldl (od1 S) z) := fold_G hW _ z hz
      have hb := m_isBit q (fun x => decide (x ∈ pre)) (k := p) (by omega)
      have q4 := p4 q q2.1
      obtain ⟨Z, eZ⟩ : ∃ Z, Z = ((List.range c).flatMap (pmF P k pre)).foldl (od1 S) z := ⟨_, rfl⟩
      rw [← eZ] at q2 zg
      have eb : ∀ X, (if bt (decide (p ∈ pre)) 1 = 0 then (Option.bind (md_ordersFrom n' (up (up q 179 (pre.length : Int) p) 180 p (pre.length : Int)) ((pre.length : Int) + 1) (ior (bs (fun q => decide (q ∈ pre))) (ishl 1 p))) (fun r32 => some r32)) else some q) = some X → md_ordersFrom_b2 (pre.length : Int) (bs (fun q => decide (q ∈ pre))) (md_ordersFrom n') (p, q) = some (.inl (p + 1, X)) := by
        intro X eX
        simp only [md_ordersFrom_b2, md_people, q4, bd_some, hb]
        rw [w32 (show -1000000 ≤ p ∧ p ≤ 1000000 by omega), w32 (show -1000000 ≤ sP S ∧ sP S ≤ 1000000 by omega), if_pos b, wr_bt, w32 (show -1000000 ≤ (pre.length : Int) ∧ (pre.length : Int) ≤ 1000000 by omega), chk_t (by omega), lt_eq, chk_t (by omega), lt_eq, eX, bd_some]
      by_cases y : p ∈ pre
      · refine ⟨(p + 1, q), eb q (by rw [decide_eq_true y, if_neg (by decide)]), rfl, ?_⟩
        dsimp only
        rw [en, fm_succ]
        have : pmF P k pre c = [] := by unfold pmF; rw [ec', if_pos y]
        rw [this, List.append_nil, ← eZ]
        exact q2
      · have pF : pmF P k pre c = pm P k (pre ++ [p]) := by unfold pmF; rw [ec', if_neg y]
        obtain ⟨f1, f2, f3, o⟩ := q2
        have hM' : MO G (up (up q 179 (pre.length : Int) p) 180 p (pre.length : Int)) (sP S) (pre ++ [p]) Z := by
          refine ⟨fun a' h1 h2 h3 h4 h5 => by rw [up_nk h3, up_nk h2]; exact f1 a' h1 h2 h3 h4 h5, fun j hj => by rw [up_nk (by omega), up_nk (by omega)]; exact f2 j hj, fun x u v => ?_, ?_⟩
          · simp only [List.length_append, List.length_cons, List.length_nil] at v
            by_cases w : x = (pre.length : Int)
            · rw [w, rwL_r, up_nk (by omega), up_eq, up_eq]
              exact ⟨rfl, rfl⟩
            · have xl : x < (pre.length : Int) := by omega
              have hx := f3 x u xl
              have ne : rwL pre x ≠ p := fun z => y (z ▸ rwL_in ⟨u, xl⟩)
              rw [rwL_l ⟨u, xl⟩, up_nk (by omega), up_ni w, up_ni ne, up_nk (by omega)]
              exact hx
          · unfold OdT
            rw [up_nk (by omega), up_nk (by omega), up_nk (by omega), up_nk (by omega)]
            exact o
        obtain ⟨X, e1, x1, x2, x3, x4⟩ := ih n' (pre ++ [p]) _ Z (by omega) (by simp; omega) (fun l hl' => hs l (by
          rw [pm_succ]
          exact List.mem_flatMap.mpr ⟨c, List.mem_range.mpr (by omega), by rw [pF]; exact hl'⟩)) zg hM'
        have el : ((pre ++ [p]).length : Int) = (pre.length : Int) + 1 := by simp
        have eu : bs (fun q => decide (q ∈ pre ++ [p])) = ior (bs (fun q => decide (q ∈ pre))) (ishl 1 p) := by
          rw [bs_shl p a (by omega), bs_ior]
          exact bs_congr (fun j _ _ => by
            by_cases w : j = p
            · simp [w]
            · have : (j == p) = false := by simpa using w
              rw [this, Bool.or_false]
              simp [w])
        rw [el, eu] at e1
        refine ⟨(p + 1, X), eb X (by rw [decide_eq_false y, if_pos (show bt false 1 = 0 from rfl), e1, bd_some]), rfl, x1, x2, fun w u v => ?_, ?_⟩
        · have := x3 w u (by simp; omega)
          rw [rwL_l ⟨u, v⟩] at this
          exact this
        · dsimp only
          rw [en, fm_succ, List.foldl_append, ← eZ, pF]
          exact x4) (fun s hi => by
      obtain ⟨p, q⟩ := s
      obtain ⟨q1, q2⟩ := hi
      dsimp only at q1 q2
      subst q1
      have q4 := p4 q q2.1
      refine ⟨q, ?_, ?_⟩
      · simp only [md_ordersFrom_b2, md_people, q4, bd_some]
        rw [if_neg (Int.lt_irrefl _)]
      · rw [pm_succ, show P = (sP S).toNat by omega] at *
        exact q2)
    refine ⟨t', ?_, r⟩
    unfold md_ordersFrom_st md_people
    rw [bd_some, p4 t hM.1, w32 (show -1000000 ≤ (pre.length : Int) ∧ (pre.length : Int) ≤ 1000000 by omega), w32 (show -1000000 ≤ sP S ∧ sP S ≤ 1000000 by omega), if_neg (by omega), e, bd_some]
theorem m_layO {h t : Hp} (hI : INV h) (hM : Mf h t) : ∃ u, md_laysOrders t = some u ∧ Mf h u ∧ OdT u (h 9 5) (odS (Sea h 0)) := by
  obtain ⟨sW, sF, eK, eL, eP, eN⟩ := Sea_ok hI 0
  have hP := sW.2.2.1
  obtain ⟨G0, e1, kB, mG⟩ := Mf_beg hM
  obtain ⟨G, eG⟩ : ∃ G, G = up (up (up G0 167 28 (-100000)) 167 30 100000) 167 31 0 := ⟨_, rfl⟩
  have gf : ∀ a, a ≠ 167 → G a = G0 a := fun a ha => by rw [eG, up_nk ha, up_nk ha, up_nk ha]
  have gj : ∀ j, (j < 28 ∨ 31 < j) → G 167 j = G0 167 j := fun j hj => by rw [eG, up_ni (by omega), up_ni (by omega), up_ni (by omega)]
  have gB : MB G (Sea h 0) := by
    obtain ⟨d0, d1, d2, d3, dT, dR⟩ := kB
    unfold MB
    rw [gf 174 (by omega), gj 26 (by omega), gf 178 (by omega), gf 179 (by omega), gf 180 (by omega), gf 181 (by omega), gf 182 (by omega)]
    exact ⟨d0, d1, d2, d3, dT, dR⟩
  obtain ⟨P, ePP⟩ : ∃ P : Nat, P = (sP (Sea h 0)).toNat := ⟨_, rfl⟩
  have eP' : (P : Int) = sP (Sea h 0) := by omega
  obtain ⟨z0, ez⟩ : ∃ z0 : Od, z0 = (-100000, G 167 29, 100000, 0, fun x => G 184 x) := ⟨_, rfl⟩
  have hM0 : MO G G (sP (Sea h 0)) [] z0 := by
    refine ⟨fun _ _ _ _ _ _ => rfl, fun _ _ => rfl, fun y a b => by simp at b; omega, ?_⟩
    rw [ez]
    exact ⟨by rw [eG, up_ni (by omega), up_ni (by omega), up_eq], rfl, by rw [eG, up_ni (by omega), up_eq], by rw [eG, up_eq], fun _ _ _ => rfl⟩
  obtain ⟨u, e2, u1, u2, u3, u4⟩ := m_ords sW sF gB eP' P 8 [] G z0 (by omega) (by simp) (fun l hl => hl) (by rw [ez]; exact Or.inr ⟨rfl, rfl⟩) hM0
  have eb : bs (fun q => decide (q ∈ ([] : List Int))) = 0 := by
    refine (bs_congr (d := fun _ => false) (fun k _ _ => ?_)).trans bs_zero
    simp
  rw [eb] at e2
  have ef : (pm P P []).foldl (od1 (Sea h 0)) z0 = odS (Sea h 0) := by
    obtain ⟨L, p1, _, _⟩ := pm_form (P := P) (by omega)
    unfold odS
    rw [← ePP, p1, List.foldl_cons, List.foldl_cons]
    congr 1
    have wi : -108 ≤ wsR (Sea h 0) (rwL ((List.range P).map (fun x : Nat => (x : Int)))) (sP (Sea h 0)) := (ws_in sW _ (n := sP (Sea h 0)) (sL (Sea h 0)) (i := sP (Sea h 0)) (by omega)).1
    rw [ez]
    have h1 : (-100000 : Int) < wsR (Sea h 0) (rwL ((List.range P).map (fun x : Nat => (x : Int)))) (sP (Sea h 0)) := by omega
    have h2 : (-1 : Int) < wsR (Sea h 0) (rwL ((List.range P).map (fun x : Nat => (x : Int)))) (sP (Sea h 0)) ∨ True := Or.inr trivial
    unfold od1
    dsimp only
    simp [h1]
  rw [ef] at u4
  refine ⟨u, ?_, ?_, by rw [← eP]; exact u4⟩
  · unfold md_laysOrders
    rw [e1, bd_some, lt_eq, lt_eq, lt_eq, ← eG]
    have e2' : md_ordersFrom 8 G 0 0 = some u := e2
    rw [e2', bd_some]
  · have ua : ∀ a, a ≠ 167 → (a < 178 ∨ 185 < a) → u a = G0 a := fun a h1 h2 => by rw [u1 a h1 (by omega) (by omega) (by omega) (by omega), gf a h1]
    exact Mf_fx mG ⟨fun a ha => ua a (by unfold scr at ha; omega) (by unfold scr at ha; omega), by rw [u2 6 (by omega), gj 6 (by omega)], by rw [u2 14 (by omega), gj 14 (by omega)], by rw [u2 15 (by omega), gj 15 (by omega)]⟩
theorem st_best : St_best INV := by
  intro h hI
  have n1 : ¬ wr 1 = 0 := by decide
  have n0 : wr 0 = 0 := rfl
  have tc := th_cond hI
  by_cases g : h 9 0 = 1
  · obtain ⟨F, e1, hM, hO⟩ := c_ordN hI (Mf_rfl hI)
    have m0 : Mf h (up F 167 0 0) := Mf_up hM (by omega) (by omega) (by omega)
    obtain ⟨u, e2, mu, oT⟩ := m_layO hI m0
    refine ⟨(odS (Sea h 0)).1, F, (odS (Sea h 0)).1, u, ?_, ?_, rfl, mu.1⟩
    · unfold sf_best
      rw [if_neg (by rw [tc]; simp [g]), e1, bd_some]
      dsimp only
      rw [chk_t rfl, hO.2.1, bd_some]
    · unfold md_best
      rw [lt_eq, Mf_isF hI m0, bd_some, bI_t g, if_neg n1, e2, bd_some, oT.1]
  · have m0 : Mf h (up h 167 0 0) := Mf_self hI
    refine ⟨-10000, h, -10000, up h 167 0 0, ?_, ?_, rfl, m0.1⟩
    · unfold sf_best; rw [if_pos (by rw [tc]; exact g), bd_some]
    · unfold md_best
      rw [lt_eq, Mf_isF hI m0, bd_some, bI_f g, if_pos n0]
theorem st_ways : St_ways INV := by
  intro h hI
  have n1 : ¬ wr 1 = 0 := by decide
  have n0 : wr 0 = 0 := rfl
  have tc := th_cond hI
  by_cases g : h 9 0 = 1
  · obtain ⟨F, e1, hM, hO⟩ := c_ordN hI (Mf_rfl hI)
    have m0 : Mf h (up F 167 0 0) := Mf_up hM (by omega) (by omega) (by omega)
    obtain ⟨u, e2, mu, oT⟩ := m_layO hI m0
    refine ⟨(odS (Sea h 0)).2.1, F, (odS (Sea h 0)).2.1, u, ?_, ?_, rfl, mu.1⟩
    · unfold sf_ways
      rw [if_neg (by rw [tc]; simp [g]), e1, bd_some]
      dsimp only
      rw [chk_t rfl, hO.2.2.1, bd_some]
    · unfold md_ways
      rw [lt_eq, Mf_isF hI m0, bd_some, bI_t g, if_neg n1, e2, bd_some, oT.2.1]
  · have m0 : Mf h (up h 167 0 0) := Mf_self hI
    refine ⟨-2, h, -2, up h 167 0 0, ?_, ?_, rfl, m0.1⟩
    · unfold sf_ways; rw [if_pos (by rw [tc]; exact g), bd_some]
    · unfold md_ways
      rw [lt_eq, Mf_isF hI m0, bd_some, bI_f g, if_pos n0]
theorem st_fewest : St_fewest INV := by
  intro h hI
  have n1 : ¬ wr 1 = 0 := by decide
  have n0 : wr 0 = 0 := rfl
  have tc := th_cond hI
  by_cases g : h 9 0 = 1
  · obtain ⟨F, e1, hM, hO⟩ := c_ordN hI (Mf_rfl hI)
    have m0 : Mf h (up F 167 0 0) := Mf_up hM (by omega) (by omega) (by omega)
    obtain ⟨u, e2, mu, oT⟩ := m_layO hI m0
    refine ⟨(odS (Sea h 0)).2.2.1, F, (odS (Sea h 0)).2.2.1, u, ?_, ?_, rfl, mu.1⟩
    · unfold sf_fewest
      rw [if_neg (by rw [tc]; simp [g]), e1, bd_some]
      dsimp only
      rw [chk_t rfl, hO.2.2.2.1, bd_some]
    · unfold md_fewest
      rw [lt_eq, Mf_isF hI m0, bd_some, bI_t g, if_neg n1, e2, bd_some, oT.2.2.1]
  · have m0 : Mf h (up h 167 0 0) := Mf_self hI
    refine ⟨-2, h, -2, up h 167 0 0, ?_, ?_, rfl, m0.1⟩
    · unfold sf_fewest; rw [if_pos (by rw [tc]; exact g), bd_some]
    · unfold md_fewest
      rw [lt_eq, Mf_isF hI m0, bd_some, bI_f g, if_pos n0]
theorem st_full : St_full INV := by
  intro h hI
  have n1 : ¬ wr 1 = 0 := by decide
  have n0 : wr 0 = 0 := rfl
  have tc := th_cond hI
  by_cases g : h 9 0 = 1
  · obtain ⟨F, e1, hM, hO⟩ := c_ordN hI (Mf_rfl hI)
    have m0 : Mf h (up F 167 0 0) := Mf_up hM (by omega) (by omega) (by omega)
    obtain ⟨u, e2, mu, oT⟩ := m_layO hI m0
    refine ⟨(odS (Sea h 0)).2.2.2.1, F, (odS (Sea h 0)).2.2.2.1, u, ?_, ?_, rfl, mu.1⟩
    · unfold sf_full
      rw [if_neg (by rw [tc]; simp [g]), e1, bd_some]
      dsimp only
      rw [chk_t rfl, hO.2.2.2.2.1, bd_some]
    · unfold md_full
      rw [lt_eq, Mf_isF hI m0, bd_some, bI_t g, if_neg n1, e2, bd_some, oT.2.2.2.1]
  · have m0 : Mf h (up h 167 0 0) := Mf_self hI
    refine ⟨-2, h, -2, up h 167 0 0, ?_, ?_, rfl, m0.1⟩
    · unfold sf_full; rw [if_pos (by rw [tc]; exact g), bd_some]
    · unfold md_full
      rw [lt_eq, Mf_isF hI m0, bd_some, bI_f g, if_pos n0]
theorem st_order : St_order INV := by
  intro h hI a1 w1
  have n1 : ¬ wr 1 = 0 := by decide
  have n0 : wr 0 = 0 := rfl
  have lP := (INV_l hI).2.2.2.2.2.1
  by_cases g : 0 ≤ a1 ∧ a1 < h 9 5
  · obtain ⟨F, e1, hM, hO⟩ := c_ordN hI (Mf_rfl hI)
    have m0 : Mf h (up F 167 0 0) := Mf_up hM (by omega) (by omega) (by omega)
    obtain ⟨u, e2, mu, oT⟩ := m_layO hI m0
    have eP := (Sea_ok hI 0).2.2.2.2.1
    refine ⟨(odS (Sea h 0)).2.2.2.2 a1, F, (odS (Sea h 0)).2.2.2.2 a1, u, ?_, ?_, rfl, mu.1⟩
    · unfold sf_order
      rw [c_isP hI w1, bd_some, bI_t g, if_neg n1, e1, bd_some]
      dsimp only
      rw [chk_t rfl, w1, chk_t (by omega), hO.2.2.2.2.2 a1 g.1 (by omega), bd_some]
    · unfold md_order
      rw [lt_eq, Mf_isP hI m0 w1, bd_some, bI_t g, if_neg n1, e2, bd_some, w1, chk_t (by omega), oT.2.2.2.2 a1 g.1 g.2]
  · have m0 : Mf h (up h 167 0 0) := Mf_self hI
    refine ⟨-2, h, -2, up h 167 0 0, ?_, ?_, rfl, m0.1⟩
    · unfold sf_order
      rw [c_isP hI w1, bd_some, bI_f g, if_pos n0, bd_some]
    · unfold md_order
      rw [lt_eq, Mf_isP hI m0 w1, bd_some, bI_f g, if_pos n0]
