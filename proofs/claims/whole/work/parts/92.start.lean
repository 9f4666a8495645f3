def sIx : List Nat := [66, 72, 80, 84, 88, 94, 106, 108]
def sTm (i : Nat) : Term := .string "SpiteField$Reader" (sIx.getD i 0)
abbrev fl1 : List Cond := flatC (Jvm.Cond.and given_1 narrow_1)
theorem sx_ex : ∀ i, i < 8 → (Cond.exactly (sTm i) "java/lang/String") ∈ fl1 := by decide +kernel
theorem sx_co : ∀ i, i < 8 → (Cond.eq (.field (sTm i) "java/lang/String" "coder" "B") (.int 0)) ∈ fl1 := by decide +kernel
theorem sx_ar : ∀ i, i < 8 → (Cond.arrayOf (.field (sTm i) "java/lang/String" "value" "[B") .byte) ∈ fl1 := by decide +kernel
theorem sx_le : ∀ i, i < 8 → (Cond.eq (.length (.field (sTm i) "java/lang/String" "value" "[B")) (.int (Int32.ofNat (sLen.getD i 0)))) ∈ fl1 := by decide +kernel
theorem sx_el : ∀ i, i < 8 → ∀ j, j < sLen.getD i 0 → (Cond.eq (.elem (.field (sTm i) "java/lang/String" "value" "[B") (.int (Int32.ofNat j))) (.int ((sByt.getD i []).getD j 0))) ∈ fl1 := by decide +kernel
theorem sx_ne : ∀ i, i < 8 → ∀ j, j < 8 → i ≠ j → (Cond.not (Cond.eq (sTm i) (sTm j))) ∈ fl1 ∨ (Cond.not (Cond.eq (sTm j) (sTm i))) ∈ fl1 := by decide +kernel
theorem sx_cs : (Cond.eq (.static "java/lang/String" "COMPACT_STRINGS" "Z") (.int 1)) ∈ fl1 := by decide +kernel
theorem sx_fm : (Cond.isRef (.static "jdk/internal/util/Preconditions" "SIOOBE_FORMATTER" "Ljava/util/function/BiFunction;")) ∈ fl1 := by decide +kernel
theorem sx_sr : ∀ q ∈ SR, (Cond.stringRef RX2 q.1 q.2.1) ∈ lw_tbl := by decide +kernel
theorem sx_ix : ∀ q ∈ SR, q.2.2 < 8 ∧ sIx.getD q.2.2 0 = q.1 := by decide +kernel
theorem sx_ls : (Cond.laysStatic "java/lang/String" "COMPACT_STRINGS" "Z") ∈ lw_tbl ∧ (Cond.initialized "java/lang/String") ∈ lw_tbl ∧ (Cond.laysStatic "jdk/internal/util/Preconditions" "SIOOBE_FORMATTER" "Ljava/util/function/BiFunction;") ∈ lw_tbl ∧ (Cond.initialized "jdk/internal/util/Preconditions") ∈ lw_tbl := by decide +kernel
theorem sx_nw : ∀ q ∈ NW, (Cond.methodLinkNest q.1 q.2.1 q.2.2 "SpiteField") ∈ lw_tbl := by decide +kernel
theorem sx_nc : ∀ q ∈ NWc, (Cond.methodLinkNest RX7 q.1 q.2 "SpiteField") ∈ lw_tbl := by decide +kernel
theorem sx_ao : (Cond.arrayOver (.object "SpiteField$Land")) ∈ lw_tbl ∧ (Cond.arrayOver (.object "SpiteField$Slot")) ∈ lw_tbl ∧ (Cond.arrayOver (.object "SpiteField$Season")) ∈ lw_tbl := by decide +kernel
theorem cS_0 (g : GT) : cellE g 0 (h0 0) = .inr (7, fsF g) := by
  rw [cE_o (c := 7) (n := 13) rfl]
  simp [objV, fdT, fdV, fsF, h0, iV, rV, List.mapIdx_cons]
theorem vq_cong (cA : ClassId) (n : Nat) {f f' : Nat → Option Nat} (h : ∀ j, j < n → f j = f' j) : vp_cell cA (n, .inr (.inr (.inr (.inr f)))) = vp_cell cA (n, .inr (.inr (.inr (.inr f')))) := by
  rw [vp_cell_q, vp_cell_q]
  unfold arrV
  congr 2
  funext j
  show va_rf (f j.val) = va_rf (f' j.val)
  rw [h j.val j.isLt]
theorem Rp_start {g : GT} {c : CF} {H : Heap} (hc : ∀ k, k < 167 → c k = cS g (fsF g) (fI g 37 6 3) (fI g 55 2 4) (fI g 63 8 13) k) (hc2 : ∀ k, 167 ≤ k → c k = cellE g k (h0 k)) (hP : va_P (gD g) vwCl (wq g 186 c) H) : Rp g h0 H := by
  intro k q hq
  have hk : k < 186 := wo_lt hq
  rw [wo_at g h0 hk] at hq
  cases hq
  have h1 := hP k _ (wq_at g c hk)
  by_cases q1 : 167 ≤ k
  · rw [hc2 k q1] at h1
    exact h1
  · rw [hc k (by omega)] at h1
    by_cases q2 : k = 0
    · subst q2
      rw [cS_0]
      exact h1
    · by_cases q3 : k = 15
      · subst q3
        rw [cE_4 (n := 3) rfl]
        show H[_]? = some _
        rw [vq_cong (gA g 4) 3 (f' := fI g 37 6 3) (fun j hj => by simp [fI, hj])]
        exact h1
      · by_cases q4 : k = 17
        · subst q4
          rw [cE_5 (n := 4) rfl]
          show H[_]? = some _
          rw [vq_cong (gA g 5) 4 (f' := fI g 55 2 4) (fun j hj => by simp [fI, hj])]
          exact h1
        · by_cases q5 : k = 18
          · subst q5
            rw [cE_6 (n := 13) rfl]
            show H[_]? = some _
            rw [vq_cong (gA g 6) 13 (f' := fI g 63 8 13) (fun j hj => by simp [fI, hj])]
            exact h1
          · rw [cS_o ⟨q2, q3, q4, q5⟩] at h1
            exact h1
theorem arrT {s : State} {cA comp : ClassId} {kA : Class} {ty : FieldType} (h2 : s.vm.classes[cA]? = some kA) (h3 : kA.kind = .array comp ty) : ArrOfT s cA ty := fun n z => ⟨fun k h => (by cases h), kA, h2, comp, h3⟩
set_option maxRecDepth 100000 in
set_option maxHeartbeats 8000000 in
theorem start_of (Inv : Hp → Prop) (hI : Inv h0) (hs : StepAll Inv) {p : Program} {e : Env} {s : State} {m : MethodId} {below : List Frame} {meth : Method} {c : Code} (l : Launch) {b L : Nat} {xs : Nat → Int32} (hL : L ≤ 3072) (C0 : lw_At p s m meth c b L xs) : W p l e room_1 s m #[Value.ref b] below meth c s.heap [] 0 0 (lw_Z below #[Value.ref b] s) (entryFrame m ([Value.ref b] : List Value).toArray 4) := by
  obtain ⟨hx, hb, hr, hml, hown, hts, hX, hbl, hlocks, hgv⟩ := id C0
  have htg : ∀ w ∈ GW, w.before #[Value.ref b] s = true := fun w h => hts w (List.mem_filter.mp h).1
  have hfl := flat_of_before _ hgv
  obtain ⟨c0, i0, k0⟩ := u_known (C := RX0) (T := TX0) (N := 13) (n := 13) htg inX0 (htg _ it_X0)
  obtain ⟨c1, i1, k1⟩ := u_known (C := RX1) (T := TX1) (N := 12) (n := 12) htg inX1 (htg _ it_X1)
  obtain ⟨c2, i2, k2⟩ := u_known (C := RX2) (T := TX2) (N := 9) (n := 9) htg inX2 (htg _ it_X2)
  obtain ⟨c3, i3, k3⟩ := u_known (C := RX3) (T := TX3) (N := 10) (n := 10) htg inX3 (htg _ it_X3)
  obtain ⟨c4, i4, k4⟩ := u_known (C := RX4) (T := TX4) (N := 4) (n := 4) htg inX4 (htg _ it_X4)
  obtain ⟨c5, i5, k5⟩ := u_known (C := RX5) (T := TX5) (N := 7) (n := 7) htg inX5 (htg _ it_X5)
  obtain ⟨c6, i6, k6⟩ := u_known (C := RX6) (T := TX6) (N := 0) (n := 0) htg inX6 (htg _ it_X6)
  obtain ⟨c7, i7, k7⟩ := u_known (C := RX7) (T := TX7) (N := 13) (n := 13) htg inX7 (htg _ it_X7)
  obtain ⟨c8, i8, k8⟩ := u_known (C := RX8) (T := TX8) (N := 40) (n := 40) htg inX8 (htg _ it_X8)
  obtain ⟨dC, dI, hKc⟩ : ∃ (dC : Nat → ClassId) (dI : Nat → Nat → Nat), ∀ (k : Nat) (q : vw_C), vwCl[k]? = some q → u_Kn s q.1 q.2.1 q.2.2 (dC k) (dI k) := by
    refine ⟨fun k => [c0, c1, c2, c3, c4, c5, c6, c7, c8].getD k c0, fun k => [i0, i1, i2, i3, i4, i5, i6, i7, i8].getD k i0, ?_⟩
    intro k q hq
    match k, hq with
    | 0, hq => cases hq; exact k0
    | 1, hq => cases hq; exact k1
    | 2, hq => cases hq; exact k2
    | 3, hq => cases hq; exact k3
    | 4, hq => cases hq; exact k4
    | 5, hq => cases hq; exact k5
    | 6, hq => cases hq; exact k6
    | 7, hq => cases hq; exact k7
    | 8, hq => cases hq; exact k8
    | k + 9, hq => simp [vwCl] at hq
  obtain ⟨a0, ka0, cm0, f0, g0, m0⟩ := Cond.arrayClass_spec (htg _ ac_int)
  obtain ⟨a1, ka1, cm1, f1, g1, m1⟩ := Cond.arrayClass_spec (htg _ ac_long)
  obtain ⟨a2, ka2, cm2, f2, g2, m2⟩ := Cond.arrayClass_spec (htg _ ac_byte)
  obtain ⟨a3, ka3, cm3, f3, g3, m3⟩ := Cond.arrayClass_spec (htg _ ac_boolean)
  obtain ⟨cm4, a4, ka4, n4, -, g4, m4, f4⟩ := Cond.arrayOver_spec (hts _ sx_ao.1)
  obtain ⟨cm5, a5, ka5, n5, -, g5, m5, f5⟩ := Cond.arrayOver_spec (hts _ sx_ao.2.1)
  obtain ⟨cm6, a6, ka6, n6, -, g6, m6, f6⟩ := Cond.arrayOver_spec (hts _ sx_ao.2.2)
  have hA : ∀ a : Nat, a < s.heap.size → ¬ (fun q : Nat => s.heap.size ≤ q) a := fun a h => Nat.not_le.mpr h
  obtain ⟨adK, adV, hvS, hvE⟩ := vk_Sof (args := #[Value.ref b]) (s := s) (N := 8) (tm := sTm) (len := sLen) (byt := sByt) (A := fun q : Nat => s.heap.size ≤ q) (by decide +kernel) (fun i hi => hfl _ (sx_ex i hi)) (fun i hi => hfl _ (sx_co i hi)) (fun i hi => hfl _ (sx_ar i hi)) (fun i hi => hfl _ (sx_le i hi)) (fun i hi j hj => hfl _ (sx_el i hi j hj)) (fun i j hi hj hn => (sx_ne i hi j hj hn).elim (fun q => Or.inl (hfl _ q)) (fun q => Or.inr (hfl _ q))) hA
  obtain ⟨g, hg⟩ : ∃ g : GT, g = (l, (dC, dI), (fun k => [a0, a1, a2, a3, a4, a5, a6].getD k a0), s.heap.size, adK, adV) := ⟨_, rfl⟩
  have hgl : gl g = l := by rw [hg]; rfl
  have hgb : gb g = s.heap.size := by rw [hg]; rfl
  have hgF : gF g = fun q : Nat => s.heap.size ≤ q := by rw [hg]; rfl
  have hKv : va_K (gD g) vwCl (tysOf g) s := by
    subst hg
    refine ⟨hKc, fun k q hk => ?_⟩
    match k, hk with
    | 0, hk => cases hk; exact ⟨arrT g0 m0, f0⟩
    | 1, hk => cases hk; exact ⟨arrT g1 m1, f1⟩
    | 2, hk => cases hk; exact ⟨arrT g2 m2, f2⟩
    | 3, hk => cases hk; exact ⟨arrT g3 m3, f3⟩
    | 4, hk => cases hk; exact ⟨arrT g4 m4, ka4, cm4, g4, m4, n4, f4⟩
    | 5, hk => cases hk; exact ⟨arrT g5 m5, ka5, cm5, g5, m5, n5, f5⟩
    | 6, hk => cases hk; exact ⟨arrT g6 m6, ka6, cm6, g6, m6, n6, f6⟩
    | k + 7, hk => simp [tysOf] at hk
  have hKK : KK g s s.heap := by
    refine ⟨hKv, fun q hq => va_Nw.of rfl (hts _ (sx_nw q hq)), ?_, fun q hq => ?_, ?_, ?_⟩
    · rw [hgF, hg]; exact hvS
    · have h1 := sx_ix q hq
      have h2 := hvE q.2.2 h1.1
      rw [sTm, h1.2] at h2
      have h3 : gk g = adK := by rw [hg]; rfl
      rw [h3]
      exact vk_R.of (hts _ (sx_sr q hq)) h2
    · rw [hgF]; exact va_Zof (hts _ sx_ls.1) (hts _ sx_ls.2.1) (va_eqt (hfl _ sx_cs)) hA
    · rw [hgF]; exact va_Zqof (hts _ sx_ls.2.2.1) (hts _ sx_ls.2.2.2) (hfl _ sx_fm) hA
  have hKN : KN g s := ⟨hKv, fun q hq => va_Nw.of rfl (hts _ (sx_nc q hq)), va_AO.of (hts _ sx_ao.1), va_AO.of (hts _ sx_ao.2.1), va_AO.of (hts _ sx_ao.2.2)⟩
  subst hgl
  obtain ⟨Pc, hPc⟩ : ∃ Pc : Nat → List (Nat × Value) → List Value → Nat → CF → Prop, Pc = fun pc L st n cf => ∀ (ls : Array Slot) (H : Heap) (locs : List Loc), lv_has ls 4 L → va_P (gD g) vwCl (wq g (0 + n) cf) H → va_S (gF g) s.heap H locs → W p (gl g) e room_1 s m #[Value.ref b] below meth c H locs n (1000 * n) (lw_Z below #[Value.ref b] s) (F0 m pc ls st) := ⟨_, rfl⟩
  have A : AmbC false g cL_law RL (100 + 1) 4 0 186 Pc (fun _ => False) := ⟨p, e, room_1, s, m, #[Value.ref b], below, meth, c, _, ⟨hx, hb, hml, hown, htg⟩, hKN, (fun h => by cases h), ⟨by decide, by decide, by decide, by decide⟩, (by omega), (fun _ _ _ _ _ h => False.elim h), hPc⟩
  have key : Pc 0 [(0, .ref b)] [] 0 (fun _ => .inr (0, [])) := by
    refine c_new A (ci := 7) (fs := df7) rfl inX7 tyX7_ok cl_L_7 it_X7 ni_X7 df_ok7 (by decide) (by decide) dL_law_0 (?_ : Pc 3 _ _ 1 _)
    refine c_dup A dL_law_3 rfl (?_ : Pc 4 _ _ 1 _)
    refine c_call A (d := 100) (k := 0) (As := []) (rest := [rV g 0]) cb_X7_init rfl ci_X7_init li_L_9 (by decide) (by decide) rfl (Nat.le_of_ble_eq_true rfl) dL_law_4 (L_ini7 g _ (by simp [cset])) (?_ : Pc 7 _ _ 167 _)
    refine c_astore A (L' := [(1, rV g 0), (0, .ref b)]) dL_law_7 (by decide) rfl (?_ : Pc 8 _ _ 167 _)
    refine c_new A (ci := 8) (fs := df8) rfl inX8 tyX8_ok cl_L_10 it_X8 ni_X8 df_ok8 (by decide) (by decide) dL_law_8 (?_ : Pc 11 _ _ 168 _)
    refine c_dup A dL_law_11 rfl (?_ : Pc 12 _ _ 168 _)
    refine c_call A (d := 100) (k := 167) (As := []) (rest := [rV g 167]) cb_X8_init rfl ci_X8_init li_L_12 (by decide) (by decide) rfl (Nat.le_of_ble_eq_true rfl) dL_law_12 (L_ini8 g _ (by simp [cset])) (?_ : Pc 15 _ _ 186 _)
    refine c_astore A (L' := [(2, rV g 167), (1, rV g 0), (0, .ref b)]) dL_law_15 (by decide) rfl (?_ : Pc 16 _ _ 186 _)
    refine c_iconst A dL_law_16 (?_ : Pc 17 _ _ 186 _)
    refine c_istore A (L' := [(3, iV 0), (2, rV g 167), (1, rV g 0), (0, .ref b)]) dL_law_17 (by decide) rfl (?_ : Pc 18 _ _ 186 _)
    refine c_loc A (L' := [(0, .ref b), (1, rV g 0), (2, rV g 167), (3, iV 0)]) [3, 2, 1, 0] rfl ?_
    subst hPc
    intro ls H locs hl hP hS
    have hR : Rp g h0 H := by
      refine Rp_start (fun k hk => ?_) (fun k hk => ?_) hP
      · simp [fin0, cset, show k < 167 by omega, show k ≠ 167 by omega]
      · simp [fin0, show ¬ k < 167 by omega]
    refine W.widen (k := 600000) (n := 7302250) (by decide) (by decide) ?_
    obtain ⟨Pt, hPt⟩ : ∃ Pt : Nat → List (Nat × Value) → List Value → Hp → Prop, Pt = fun pc L st h => ∀ (ls : Array Slot) (H : Heap) (locs : List Loc), lv_has ls 4 L → Rp g h H → va_S (gF g) s.heap H locs → W p (gl g) e room_1 s m #[Value.ref b] below meth c H locs 600000 7302250 (lw_Z below #[Value.ref b] s) (F0 m pc ls st) := ⟨_, rfl⟩
    have AS : AmbS g b L (fun j => (xs j.toNat).toInt) Pt (fun v _ => v = some (iV 1)) := by
      refine ⟨p, e, room_1, s, m, #[Value.ref b], below, meth, c, 600000, 7302250, _, ⟨hx, hb, hml, hown, htg⟩, hKK, ⟨by decide, by decide, by decide, by decide⟩, ?_, hPt, ?_, hbl, hgb⟩
      · intro pc ls H locs h v hE hRt hP2 hS2
        subst hE
        rcases hRt with ⟨z, ty, e1, e2, e3, hd⟩ | ⟨z, e1, -⟩ | ⟨a, n, e1, -⟩ | ⟨e1, -⟩
        · refine va_forget (fun q hq => ?_) (lw_ret hx hb hr hlocks hd)
          have := hS2.2.2 q hq
          rw [hgF] at this
          exact this
        · cases e1
        · cases e1
        · cases e1
      · have e1 : (fun j : Nat => Int32.ofInt ((fun j : Int => (xs j.toNat).toInt) (j : Int))) = xs := by
          funext j
          show Int32.ofInt (xs ((j : Int).toNat)).toInt = xs j
          rw [Int32.ofInt_toInt, Int.toNat_natCast]
        rw [e1]
        exact hX
    have fin := law_loop Inv hs (fun j => by show wr (xs j.toNat).toInt = _; show (Int32.ofInt (xs j.toNat).toInt).toInt = _; rw [Int32.ofInt_toInt]) AS hL (fun h => rfl) L 0 h0 hI (by omega) (by omega) (by omega)
    subst hPt
    exact fin ls H locs hl hR hS
  subst hPc
  rw [lg_entry_eq]
  exact key _ _ [] (lv_entry [Value.ref b] (Nat.le_of_ble_eq_true rfl)) (fun k q h => by simp [wq] at h) va_S.rf
