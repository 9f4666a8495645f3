def fI (g : GT) (b s i : Nat) : Nat → Option Nat := fun j => if j < i then some (gb g + (b + s * j)) else none
theorem fI_0 (g : GT) (b s : Nat) : fI g b s 0 = fun _ => none := by funext j; simp [fI]
theorem fI_up (g : GT) (b s i : Nat) : va_up (fI g b s i) i (some (gb g + (b + s * i))) = fI g b s (i + 1) := by
  funext j
  simp only [va_up, fI]
  by_cases h : j = i
  · subst h; simp
  · by_cases h2 : j < i
    · simp [h, h2, show j < i + 1 by omega]
    · simp [h, h2, show ¬ j < i + 1 by omega]
/-- the cells while SpiteField is made -/
def cS (g : GT) (fs : List Value) (a b c : Nat → Option Nat) : CF := fun k => if k = 0 then .inr (7, fs) else if k = 15 then .inl (gA g 4, 3, .inr (.inr (.inr (.inr a)))) else if k = 17 then .inl (gA g 5, 4, .inr (.inr (.inr (.inr b)))) else if k = 18 then .inl (gA g 6, 13, .inr (.inr (.inr (.inr c)))) else cellE g k (h0 k)
theorem cset_same {c : CF} {a : Nat} {e : va_E} (h : c a = e) : cset c a e = c := by
  funext k
  simp only [cset]
  by_cases q : k = a
  · subst q; simp [h]
  · simp [q]
theorem cS_put (g : GT) (fs fs' : List Value) (a b c : Nat → Option Nat) : cset (cS g fs a b c) 0 (.inr (7, fs')) = cS g fs' a b c := by
  funext k
  simp only [cset, cS]
  by_cases q : k = 0 <;> simp [q]
theorem cS_15 (g : GT) (fs : List Value) (a a' b c : Nat → Option Nat) : cset (cS g fs a b c) 15 (.inl (gA g 4, 3, .inr (.inr (.inr (.inr a'))))) = cS g fs a' b c := by
  funext k
  simp only [cset, cS]
  by_cases q : k = 15
  · subst q; simp
  · simp [q]
theorem cS_17 (g : GT) (fs : List Value) (a b b' c : Nat → Option Nat) : cset (cS g fs a b c) 17 (.inl (gA g 5, 4, .inr (.inr (.inr (.inr b'))))) = cS g fs a b' c := by
  funext k
  simp only [cset, cS]
  by_cases q : k = 17
  · subst q; simp
  · simp [q]
theorem cS_18 (g : GT) (fs : List Value) (a b c c' : Nat → Option Nat) : cset (cS g fs a b c) 18 (.inl (gA g 6, 13, .inr (.inr (.inr (.inr c'))))) = cS g fs a b c' := by
  funext k
  simp only [cset, cS]
  by_cases q : k = 18
  · subst q; simp
  · simp [q]
theorem cS_o {g : GT} {fs : List Value} {a b c : Nat → Option Nat} {k : Nat} (h : k ≠ 0 ∧ k ≠ 15 ∧ k ≠ 17 ∧ k ≠ 18) : cS g fs a b c k = cellE g k (h0 k) := by
  obtain ⟨h1, h2, h3, h4⟩ := h
  simp [cS, h1, h2, h3, h4]
theorem fin_cS {g : GT} {fs : List Value} {a b c : Nat → Option Nat} {x y : Nat} {e : va_E} (h : ∀ k, x ≤ k → k < y → k ≠ 0 ∧ k ≠ 15 ∧ k ≠ 17 ∧ k ≠ 18) : ∀ k, k < y → fin0 g (cset (cS g fs a b c) x e) x k = cS g fs a b c k := by
  intro k hk
  simp only [fin0]
  by_cases q : k < x
  · simp [q, cset, show k ≠ x by omega]
  · simp only [q, if_false]
    exact (cS_o (h k (by omega) hk)).symm
section CT2
variable {g : GT} {Pt : Nat → List (Nat × Value) → List Value → Nat → CF → Prop} {En : CF → Prop} {pc : Nat} {L : List (Nat × Value)} {st : List Value} {n : Nat} {fs : List Value} {a b c : Nat → Option Nat}
theorem u_put (A : AmbC true g cX7_init RX7 (1 + 1) 2 1 166 Pt En) {j idx : Nat} {z : Int} {fs' : List Value} (hf : FL RX7 idx 7 j) (hp : FP 7 j .int) (hl0 : j < fs.length) (hs : fs.set j (iV z) = fs') (hdg : decode cX7_init pc = .ok (.putfield idx, 3)) (kk : Pt (pc + 3) L st n (cS g fs' a b c)) : Pt pc L (iV z :: rV g 0 :: st) n (cS g fs a b c) := by
  refine c_putn A (by omega) (fs := fs) rfl hf hp rfl rfl hl0 hdg ?_
  rw [cS_put, hs]
  exact kk
theorem u_putz (A : AmbC true g cX7_init RX7 (1 + 1) 2 1 166 Pt En) {j idx : Nat} {z : Int} {fs' : List Value} (h01 : z = 0 ∨ z = 1) (hf : FL RX7 idx 7 j) (hp : FP 7 j .boolean) (hl0 : j < fs.length) (hs : fs.set j (iV z) = fs') (hdg : decode cX7_init pc = .ok (.putfield idx, 3)) (kk : Pt (pc + 3) L st n (cS g fs' a b c)) : Pt pc L (iV z :: rV g 0 :: st) n (cS g fs a b c) := by
  refine c_putn A (by omega) (fs := fs) rfl hf hp (nz_ok h01).1 (nz_ok h01).2 hl0 hdg ?_
  rw [cS_put, hs]
  exact kk
theorem u_putr (A : AmbC true g cX7_init RX7 (1 + 1) 2 1 166 Pt En) {j idx x : Nat} {ty : FieldType} {fs' : List Value} (hf : FL RX7 idx 7 j) (hp : FQ RX7 7 j ty) (hfin : ∀ C T N, vwCl[7]? = some (C, T, N) → (T j).2.2.2 = true) (hnr : narrow ty (rV g x) = rV g x) (hft : fits ty (rV g x) = true) (hl0 : j < fs.length) (hs : fs.set j (rV g x) = fs') (hdg : decode cX7_init pc = .ok (.putfield idx, 3)) (kk : Pt (pc + 3) L st n (cS g fs' a b c)) : Pt pc L (rV g x :: rV g 0 :: st) n (cS g fs a b c) := by
  refine c_putF A (by omega) (fs := fs) rfl hf hp hfin hnr hft hl0 hdg ?_
  rw [cS_put, hs]
  exact kk
end CT2
abbrev nq : Nat → Option Nat := fun _ => none
theorem df_ok0 : ∀ j, j < 13 → defaultValue (tyX0 j) = vp_V df0 j := by decide +kernel
theorem df_ok1 : ∀ j, j < 12 → defaultValue (tyX1 j) = vp_V df1 j := by decide +kernel
theorem df_ok2 : ∀ j, j < 9 → defaultValue (tyX2 j) = vp_V df2 j := by decide +kernel
theorem df_ok3 : ∀ j, j < 10 → defaultValue (tyX3 j) = vp_V df3 j := by decide +kernel
theorem df_ok4 : ∀ j, j < 4 → defaultValue (tyX4 j) = vp_V df4 j := by decide +kernel
theorem df_ok5 : ∀ j, j < 7 → defaultValue (tyX5 j) = vp_V df5 j := by decide +kernel
theorem df_ok6 : ∀ j, j < 0 → defaultValue (tyX6 j) = vp_V df6 j := by decide +kernel
theorem df_ok7 : ∀ j, j < 13 → defaultValue (tyX7 j) = vp_V df7 j := by decide +kernel
theorem df_ok8 : ∀ j, j < 40 → defaultValue (tyX8 j) = vp_V df8 j := by decide +kernel
def fsF (g : GT) : List Value := [rV g 1, rV g 3, rV g 9, rV g 15, rV g 16, rV g 17, rV g 18, rV g 19, rV g 27, rV g 32, rV g 36, iV (1), iV (1)]
set_option maxRecDepth 100000 in
set_option maxHeartbeats 4000000 in
theorem lp_C {g : GT} {Pt : Nat → List (Nat × Value) → List Value → Nat → CF → Prop} {En : CF → Prop} (A : AmbC true g cX7_init RX7 (1 + 1) 2 1 166 Pt En) (kk : Pt 202 [(0, rV g 0)] [] 166 (cS g (fsF g) (fI g 37 6 3) (fI g 55 2 4) (fI g 63 8 13))) : ∀ (r i : Nat), i + r = 13 → Pt 177 [(0, rV g 0), (1, iV (i : Int))] [] (62 + 8 * i) (cS g (fsF g) (fI g 37 6 3) (fI g 55 2 4) (fI g 63 8 i)) := by
  intro r
  induction r with
  | zero =>
    intro i hi
    have hi : i = 13 := by omega
    subst hi
    refine c_iload A 1 dX7_init_177 rfl (?_ : Pt 178 _ _ _ _)
    refine c_bipush A dX7_init_178 (by decide) (?_ : Pt 180 _ _ _ _)
    refine c_ge A dX7_init_180 (by decide) (fun h => ?_) (fun _ => (?_ : Pt 202 _ _ _ _))
    · exfalso
      rw [wr_id (by omega), wr_id (by omega)] at h
      omega
    · exact c_loc A [0] rfl kk
  | succ r ih =>
    intro i hi
    refine c_iload A 1 dX7_init_177 rfl (?_ : Pt 178 _ _ _ _)
    refine c_bipush A dX7_init_178 (by decide) (?_ : Pt 180 _ _ _ _)
    refine c_ge A (tgt := 202) dX7_init_180 (by decide) (fun _ => (?_ : Pt 183 _ _ _ _)) (fun h => by exfalso; rw [wr_id (by omega), wr_id (by omega)] at h; omega)
    refine c_aload A 0 dX7_init_183 rfl (?_ : Pt 184 _ _ _ _)
    refine c_get A (k := 0) (ci := 7) (fs := fsF g) (j := 6) (by omega) rfl fl_X7_42 rfl dX7_init_184 (?_ : Pt 187 _ (rV g 18 :: _) _ _)
    refine c_iload A 1 dX7_init_187 rfl (?_ : Pt 188 _ _ _ _)
    refine c_new A (ci := 3) (fs := df3) rfl inX3 tyX3_ok cl_X7_40 it_X3 ni_X3 df_ok3 (by decide) (by omega) dX7_init_188 ?_
    have e0 : 1 + (62 + 8 * i) = 63 + 8 * i := by omega
    rw [e0]
    refine c_dup A dX7_init_191 rfl (?_ : Pt 192 _ _ _ _)
    have hsh : sh (63 + 8 * i) = (13, 10) := by
      have h1 := sh_tab 13 63 8 13 10 (by decide +kernel) (i := (i : Int)) (by omega)
      rwa [Int.toNat_natCast] at h1
    have hM := L_ini3 g (63 + 8 * i) (cset (cS g (fsF g) (fI g 37 6 3) (fI g 55 2 4) (fI g 63 8 i)) (63 + 8 * i) (.inr (3, df3))) hsh (by simp [cset])
    rw [show 63 + 8 * i + 1 = 1 + (62 + 8 * i + 1) by omega] at hM
    refine c_callN A (d := 1) (k := 63 + 8 * i) (As := []) (rest := [rV g (63 + 8 * i), iV (i : Int), rV g 18]) cb_X3_init rfl ci_X3_init (by decide +kernel) (by decide) (by omega) rfl (Nat.le_of_ble_eq_true rfl) dX7_init_192 hM ?_
    refine c_cong A (fin_cS (fun k h1 h2 => by omega)) (?_ : Pt 195 _ _ _ _)
    have hcv : cS g (fsF g) (fI g 37 6 3) (fI g 55 2 4) (fI g 63 8 i) (63 + 8 * i) = .inr (3, objV g (63 + 8 * i) (fdT 3) (h0 (63 + 8 * i))) := by rw [cS_o (by omega), cE_o (c := 3) hsh]
    have hw : wr (i : Int) = (i : Int) := wr_id (by omega)
    refine c_aast A 6 (r := (RX3, TX3, 10)) (by omega) (by omega) rfl rfl hcv rfl (by rw [hw]; omega) dX7_init_195 ?_
    rw [hw, Int.toNat_natCast, fI_up, cS_18]
    refine c_iinc A (L' := [(1, iV ((i : Int) + 1)), (0, rV g 0)]) 1 dX7_init_196 rfl (by decide) rfl (?_ : Pt 199 _ _ _ _)
    refine c_goto A dX7_init_199 (by decide) (?_ : Pt 177 _ _ _ _)
    have := ih (i + 1) (by omega)
    rw [show 62 + 8 * (i + 1) = 62 + 8 * i + 1 + 7 by omega] at this
    refine c_loc A [1, 0] rfl ?_
    exact this
set_option maxRecDepth 100000 in
set_option maxHeartbeats 4000000 in
theorem lp_B {g : GT} {Pt : Nat → List (Nat × Value) → List Value → Nat → CF → Prop} {En : CF → Prop} (A : AmbC true g cX7_init RX7 (1 + 1) 2 1 166 Pt En) (kk : Pt 175 [(0, rV g 0)] [] 62 (cS g (fsF g) (fI g 37 6 3) (fI g 55 2 4) nq)) : ∀ (r i : Nat), i + r = 4 → Pt 151 [(0, rV g 0), (1, iV (i : Int))] [] (54 + 2 * i) (cS g (fsF g) (fI g 37 6 3) (fI g 55 2 i) nq) := by
  intro r
  induction r with
  | zero =>
    intro i hi
    have hi : i = 4 := by omega
    subst hi
    refine c_iload A 1 dX7_init_151 rfl (?_ : Pt 152 _ _ _ _)
    refine c_iconst A dX7_init_152 (?_ : Pt 153 _ _ _ _)
    refine c_ge A dX7_init_153 (by decide) (fun h => ?_) (fun _ => (?_ : Pt 175 _ _ _ _))
    · exfalso
      rw [wr_id (by omega), wr_id (by omega)] at h
      omega
    · exact c_loc A [0] rfl kk
  | succ r ih =>
    intro i hi
    refine c_iload A 1 dX7_init_151 rfl (?_ : Pt 152 _ _ _ _)
    refine c_iconst A dX7_init_152 (?_ : Pt 153 _ _ _ _)
    refine c_ge A (tgt := 175) dX7_init_153 (by decide) (fun _ => (?_ : Pt 156 _ _ _ _)) (fun h => by exfalso; rw [wr_id (by omega), wr_id (by omega)] at h; omega)
    refine c_aload A 0 dX7_init_156 rfl (?_ : Pt 157 _ _ _ _)
    refine c_get A (k := 0) (ci := 7) (fs := fsF g) (j := 5) (by omega) rfl fl_X7_36 rfl dX7_init_157 (?_ : Pt 160 _ (rV g 17 :: _) _ _)
    refine c_iload A 1 dX7_init_160 rfl (?_ : Pt 161 _ _ _ _)
    refine c_new A (ci := 4) (fs := df4) rfl inX4 tyX4_ok cl_X7_34 it_X4 ni_X4 df_ok4 (by decide) (by omega) dX7_init_161 ?_
    have e0 : 1 + (54 + 2 * i) = 55 + 2 * i := by omega
    rw [e0]
    refine c_dup A dX7_init_164 rfl (?_ : Pt 165 _ _ _ _)
    have hsh : sh (55 + 2 * i) = (14, 4) := by
      have h1 := sh_tab 4 55 2 14 4 (by decide +kernel) (i := (i : Int)) (by omega)
      rwa [Int.toNat_natCast] at h1
    have hM := L_ini4 g (55 + 2 * i) (cset (cS g (fsF g) (fI g 37 6 3) (fI g 55 2 i) nq) (55 + 2 * i) (.inr (4, df4))) hsh (by simp [cset])
    rw [show 55 + 2 * i + 1 = 1 + (54 + 2 * i + 1) by omega] at hM
    refine c_callN A (d := 1) (k := 55 + 2 * i) (As := []) (rest := [rV g (55 + 2 * i), iV (i : Int), rV g 17]) cb_X4_init rfl ci_X4_init (by decide +kernel) (by decide) (by omega) rfl (Nat.le_of_ble_eq_true rfl) dX7_init_165 hM ?_
    refine c_cong A (fin_cS (fun k h1 h2 => by omega)) (?_ : Pt 168 _ _ _ _)
    have hcv : cS g (fsF g) (fI g 37 6 3) (fI g 55 2 i) nq (55 + 2 * i) = .inr (4, objV g (55 + 2 * i) (fdT 4) (h0 (55 + 2 * i))) := by rw [cS_o (by omega), cE_o (c := 4) hsh]
    have hw : wr (i : Int) = (i : Int) := wr_id (by omega)
    refine c_aast A 5 (r := (RX4, TX4, 4)) (by omega) (by omega) rfl rfl hcv rfl (by rw [hw]; omega) dX7_init_168 ?_
    rw [hw, Int.toNat_natCast, fI_up, cS_17]
    refine c_iinc A (L' := [(1, iV ((i : Int) + 1)), (0, rV g 0)]) 1 dX7_init_169 rfl (by decide) rfl (?_ : Pt 172 _ _ _ _)
    refine c_goto A dX7_init_172 (by decide) (?_ : Pt 151 _ _ _ _)
    have := ih (i + 1) (by omega)
    rw [show 54 + 2 * (i + 1) = 54 + 2 * i + 1 + 1 by omega] at this
    refine c_loc A [1, 0] rfl ?_
    exact this
set_option maxRecDepth 100000 in
set_option maxHeartbeats 4000000 in
theorem lp_A {g : GT} {Pt : Nat → List (Nat × Value) → List Value → Nat → CF → Prop} {En : CF → Prop} (A : AmbC true g cX7_init RX7 (1 + 1) 2 1 166 Pt En) (kk : Pt 149 [(0, rV g 0)] [] 54 (cS g (fsF g) (fI g 37 6 3) nq nq)) : ∀ (r i : Nat), i + r = 3 → Pt 125 [(0, rV g 0), (1, iV (i : Int))] [] (36 + 6 * i) (cS g (fsF g) (fI g 37 6 i) nq nq) := by
  intro r
  induction r with
  | zero =>
    intro i hi
    have hi : i = 3 := by omega
    subst hi
    refine c_iload A 1 dX7_init_125 rfl (?_ : Pt 126 _ _ _ _)
    refine c_iconst A dX7_init_126 (?_ : Pt 127 _ _ _ _)
    refine c_ge A dX7_init_127 (by decide) (fun h => ?_) (fun _ => (?_ : Pt 149 _ _ _ _))
    · exfalso
      rw [wr_id (by omega), wr_id (by omega)] at h
      omega
    · exact c_loc A [0] rfl kk
  | succ r ih =>
    intro i hi
    refine c_iload A 1 dX7_init_125 rfl (?_ : Pt 126 _ _ _ _)
    refine c_iconst A dX7_init_126 (?_ : Pt 127 _ _ _ _)
    refine c_ge A (tgt := 149) dX7_init_127 (by decide) (fun _ => (?_ : Pt 130 _ _ _ _)) (fun h => by exfalso; rw [wr_id (by omega), wr_id (by omega)] at h; omega)
    refine c_aload A 0 dX7_init_130 rfl (?_ : Pt 131 _ _ _ _)
    refine c_get A (k := 0) (ci := 7) (fs := fsF g) (j := 3) (by omega) rfl fl_X7_26 rfl dX7_init_131 (?_ : Pt 134 _ (rV g 15 :: _) _ _)
    refine c_iload A 1 dX7_init_134 rfl (?_ : Pt 135 _ _ _ _)
    refine c_new A (ci := 0) (fs := df0) rfl inX0 tyX0_ok cl_X7_16 it_X0 ni_X0 df_ok0 (by decide) (by omega) dX7_init_135 ?_
    have e0 : 1 + (36 + 6 * i) = 37 + 6 * i := by omega
    rw [e0]
    refine c_dup A dX7_init_138 rfl (?_ : Pt 139 _ _ _ _)
    have hsh : sh (37 + 6 * i) = (10, 13) := by
      have h1 := sh_tab 3 37 6 10 13 (by decide +kernel) (i := (i : Int)) (by omega)
      rwa [Int.toNat_natCast] at h1
    have hM := L_ini0 g (37 + 6 * i) (cset (cS g (fsF g) (fI g 37 6 i) nq nq) (37 + 6 * i) (.inr (0, df0))) hsh (by simp [cset])
    rw [show 37 + 6 * i + 1 = 1 + (36 + 6 * i + 1) by omega] at hM
    refine c_callN A (d := 1) (k := 37 + 6 * i) (As := []) (rest := [rV g (37 + 6 * i), iV (i : Int), rV g 15]) cb_X0_init rfl ci_X0_init (by decide +kernel) (by decide) (by omega) rfl (Nat.le_of_ble_eq_true rfl) dX7_init_139 hM ?_
    refine c_cong A (fin_cS (fun k h1 h2 => by omega)) (?_ : Pt 142 _ _ _ _)
    have hcv : cS g (fsF g) (fI g 37 6 i) nq nq (37 + 6 * i) = .inr (0, objV g (37 + 6 * i) (fdT 0) (h0 (37 + 6 * i))) := by rw [cS_o (by omega), cE_o (c := 0) hsh]
    have hw : wr (i : Int) = (i : Int) := wr_id (by omega)
    refine c_aast A 4 (r := (RX0, TX0, 13)) (by omega) (by omega) rfl rfl hcv rfl (by rw [hw]; omega) dX7_init_142 ?_
    rw [hw, Int.toNat_natCast, fI_up, cS_15]
    refine c_iinc A (L' := [(1, iV ((i : Int) + 1)), (0, rV g 0)]) 1 dX7_init_143 rfl (by decide) rfl (?_ : Pt 146 _ _ _ _)
    refine c_goto A dX7_init_146 (by decide) (?_ : Pt 125 _ _ _ _)
    have := ih (i + 1) (by omega)
    rw [show 36 + 6 * (i + 1) = 36 + 6 * i + 1 + 5 by omega] at this
    refine c_loc A [1, 0] rfl ?_
    exact this
set_option maxRecDepth 100000 in
set_option maxHeartbeats 4000000 in
theorem L_ini7 (g : GT) (c : CF) (hc : c 0 = .inr (7, df7)) : LmC g 2 166 yX7_init cX7_init 2 [rV g 0] 1 c (cS g (fsF g) (fI g 37 6 3) (fI g 55 2 4) (fI g 63 8 13)) := by
  refine LmC.of (by decide) rfl (Nat.le_of_ble_eq_true rfl) (fun Pt En A he => ?_)
  have A : AmbC true g cX7_init RX7 (1 + 1) 2 1 166 Pt En := A
  refine (?_ : Pt 0 [(0, rV g 0)] [] 0 c)
  refine c_cong A (c' := cS g df7 nq nq nq) (fun k hk => ?_) ?_
  · have : k = 0 := by omega
    subst this; exact hc
  refine c_aload A 0 dX7_init_0 rfl (?_ : Pt 1 _ _ 0 _)
  refine c_obj A objW lo_X7 (Nat.le_of_ble_eq_true rfl) dX7_init_1 (?_ : Pt 4 _ _ 0 _)
  refine c_aload A 0 dX7_init_4 rfl (?_ : Pt 5 _ _ 0 _)
  refine c_new A (ci := 2) (fs := df2) rfl inX2 tyX2_ok cl_X7_7 it_X2 ni_X2 (df_ok2) (by decide) (by decide) dX7_init_5 ?_
  refine (?_ : Pt 8 _ _ 1 _)
  refine c_dup A dX7_init_8 rfl (?_ : Pt 9 _ _ 1 _)
  refine c_callN A (d := 1) (k := 1) (As := []) (rest := [rV g 1, rV g 0]) cb_X2_init rfl ci_X2_init (by decide +kernel) (by decide) (by decide) rfl (Nat.le_of_ble_eq_true rfl) dX7_init_9 (L_ini2 g _ (by simp [cset])) ?_
  refine c_cong A (fin_cS (fun k h1 h2 => by omega)) (?_ : Pt 12 _ _ 2 _)
  refine u_putr A (j := 0) fl_X7_10 fq_7_0 (fun C T N h => by cases h; rfl) rfl rfl (Nat.le_of_ble_eq_true rfl) (fs' := [rV g 1, .null, .null, .null, .null, .null, .null, .null, .null, .null, .null, .int 0, .int 0]) rfl dX7_init_12 (?_ : Pt 15 _ _ 2 _)
  refine c_aload A 0 dX7_init_15 rfl (?_ : Pt 16 _ _ 2 _)
  refine c_new A (ci := 0) (fs := df0) rfl inX0 tyX0_ok cl_X7_16 it_X0 ni_X0 (df_ok0) (by decide) (by decide) dX7_init_16 ?_
  refine (?_ : Pt 19 _ _ 3 _)
  refine c_dup A dX7_init_19 rfl (?_ : Pt 20 _ _ 3 _)
  refine c_callN A (d := 1) (k := 3) (As := []) (rest := [rV g 3, rV g 0]) cb_X0_init rfl ci_X0_init (by decide +kernel) (by decide) (by decide) rfl (Nat.le_of_ble_eq_true rfl) dX7_init_20 (L_ini0 g 3 _ rfl (by simp [cset])) ?_
  refine c_cong A (fin_cS (fun k h1 h2 => by omega)) (?_ : Pt 23 _ _ 8 _)
  refine u_putr A (j := 1) fl_X7_19 fq_7_1 (fun C T N h => by cases h; rfl) rfl rfl (Nat.le_of_ble_eq_true rfl) (fs' := [rV g 1, rV g 3, .null, .null, .null, .null, .null, .null, .null, .null, .null, .int 0, .int 0]) rfl dX7_init_23 (?_ : Pt 26 _ _ 8 _)
  refine c_aload A 0 dX7_init_26 rfl (?_ : Pt 27 _ _ 8 _)
  refine c_new A (ci := 0) (fs := df0) rfl inX0 tyX0_ok cl_X7_16 it_X0 ni_X0 (df_ok0) (by decide) (by decide) dX7_init_27 ?_
  refine (?_ : Pt 30 _ _ 9 _)
  refine c_dup A dX7_init_30 rfl (?_ : Pt 31 _ _ 9 _)
  refine c_callN A (d := 1) (k := 9) (As := []) (rest := [rV g 9, rV g 0]) cb_X0_init rfl ci_X0_init (by decide +kernel) (by decide) (by decide) rfl (Nat.le_of_ble_eq_true rfl) dX7_init_31 (L_ini0 g 9 _ rfl (by simp [cset])) ?_
  refine c_cong A (fin_cS (fun k h1 h2 => by omega)) (?_ : Pt 34 _ _ 14 _)
  refine u_putr A (j := 2) fl_X7_23 fq_7_2 (fun C T N h => by cases h; rfl) rfl rfl (Nat.le_of_ble_eq_true rfl) (fs' := [rV g 1, rV g 3, rV g 9, .null, .null, .null, .null, .null, .null, .null, .null, .int 0, .int 0]) rfl dX7_init_34 (?_ : Pt 37 _ _ 14 _)
  refine c_aload A 0 dX7_init_37 rfl (?_ : Pt 38 _ _ 14 _)
  refine c_iconst A dX7_init_38 (?_ : Pt 39 _ _ 14 _)
  refine c_newq A 4 (N := 3) cl_X7_16 (fun U h => h.2.2.1) rfl (wr_id (by decide)) (by decide) (by decide) dX7_init_39 ?_
  refine c_cong A (fun k _ => congrFun (cset_same rfl) k) (?_ : Pt 42 _ _ 15 _)
  refine u_putr A (j := 3) fl_X7_26 fq_7_3 (fun C T N h => by cases h; rfl) rfl rfl (Nat.le_of_ble_eq_true rfl) (fs' := [rV g 1, rV g 3, rV g 9, rV g 15, .null, .null, .null, .null, .null, .null, .null, .int 0, .int 0]) rfl dX7_init_42 (?_ : Pt 45 _ _ 15 _)
  refine c_aload A 0 dX7_init_45 rfl (?_ : Pt 46 _ _ 15 _)
  refine c_iconst A dX7_init_46 (?_ : Pt 47 _ _ 15 _)
  refine c_newa A 3 (N := 3) (a0 := (3, .inl (fun _ => Int32.ofInt 0))) ac_boolean rfl rfl (fun C h => by cases h) (fun cA => rfl) (wr_id (by decide)) (by decide) (by decide) (by decide) dX7_init_47 ?_
  rw [cset_same (by show cellE g 16 (h0 16) = _; rw [cE_z (n := 3) rfl, h0_z (by decide)])]
  refine (?_ : Pt 49 _ _ 16 _)
  refine u_putr A (j := 4) fl_X7_30 fq_7_4 (fun C T N h => by cases h; rfl) rfl rfl (Nat.le_of_ble_eq_true rfl) (fs' := [rV g 1, rV g 3, rV g 9, rV g 15, rV g 16, .null, .null, .null, .null, .null, .null, .int 0, .int 0]) rfl dX7_init_49 (?_ : Pt 52 _ _ 16 _)
  refine c_aload A 0 dX7_init_52 rfl (?_ : Pt 53 _ _ 16 _)
  refine c_iconst A dX7_init_53 (?_ : Pt 54 _ _ 16 _)
  refine c_newq A 5 (N := 4) cl_X7_34 (fun U h => h.2.2.2.1) rfl (wr_id (by decide)) (by decide) (by decide) dX7_init_54 ?_
  refine c_cong A (fun k _ => congrFun (cset_same rfl) k) (?_ : Pt 57 _ _ 17 _)
  refine u_putr A (j := 5) fl_X7_36 fq_7_5 (fun C T N h => by cases h; rfl) rfl rfl (Nat.le_of_ble_eq_true rfl) (fs' := [rV g 1, rV g 3, rV g 9, rV g 15, rV g 16, rV g 17, .null, .null, .null, .null, .null, .int 0, .int 0]) rfl dX7_init_57 (?_ : Pt 60 _ _ 17 _)
  refine c_aload A 0 dX7_init_60 rfl (?_ : Pt 61 _ _ 17 _)
  refine c_bipush A dX7_init_61 (by decide) (?_ : Pt 63 _ _ 17 _)
  refine c_newq A 6 (N := 13) cl_X7_40 (fun U h => h.2.2.2.2) rfl (wr_id (by decide)) (by decide) (by decide) dX7_init_63 ?_
  refine c_cong A (fun k _ => congrFun (cset_same rfl) k) (?_ : Pt 66 _ _ 18 _)
  refine u_putr A (j := 6) fl_X7_42 fq_7_6 (fun C T N h => by cases h; rfl) rfl rfl (Nat.le_of_ble_eq_true rfl) (fs' := [rV g 1, rV g 3, rV g 9, rV g 15, rV g 16, rV g 17, rV g 18, .null, .null, .null, .null, .int 0, .int 0]) rfl dX7_init_66 (?_ : Pt 69 _ _ 18 _)
  refine c_aload A 0 dX7_init_69 rfl (?_ : Pt 70 _ _ 18 _)
  refine c_new A (ci := 3) (fs := df3) rfl inX3 tyX3_ok cl_X7_40 it_X3 ni_X3 (df_ok3) (by decide) (by decide) dX7_init_70 ?_
  refine (?_ : Pt 73 _ _ 19 _)
  refine c_dup A dX7_init_73 rfl (?_ : Pt 74 _ _ 19 _)
  refine c_callN A (d := 1) (k := 19) (As := []) (rest := [rV g 19, rV g 0]) cb_X3_init rfl ci_X3_init (by decide +kernel) (by decide) (by decide) rfl (Nat.le_of_ble_eq_true rfl) dX7_init_74 (L_ini3 g 19 _ rfl (by simp [cset])) ?_
  refine c_cong A (fin_cS (fun k h1 h2 => by omega)) (?_ : Pt 77 _ _ 26 _)
  refine u_putr A (j := 7) fl_X7_47 fq_7_7 (fun C T N h => by cases h; rfl) rfl rfl (Nat.le_of_ble_eq_true rfl) (fs' := [rV g 1, rV g 3, rV g 9, rV g 15, rV g 16, rV g 17, rV g 18, rV g 19, .null, .null, .null, .int 0, .int 0]) rfl dX7_init_77 (?_ : Pt 80 _ _ 26 _)
  refine c_aload A 0 dX7_init_80 rfl (?_ : Pt 81 _ _ 26 _)
  refine c_new A (ci := 1) (fs := df1) rfl inX1 tyX1_ok cl_X7_51 it_X1 ni_X1 (df_ok1) (by decide) (by decide) dX7_init_81 ?_
  refine (?_ : Pt 84 _ _ 27 _)
  refine c_dup A dX7_init_84 rfl (?_ : Pt 85 _ _ 27 _)
  refine c_callN A (d := 1) (k := 27) (As := []) (rest := [rV g 27, rV g 0]) cb_X1_init rfl ci_X1_init (by decide +kernel) (by decide) (by decide) rfl (Nat.le_of_ble_eq_true rfl) dX7_init_85 (L_ini1 g 27 _ rfl (by simp [cset])) ?_
  refine c_cong A (fin_cS (fun k h1 h2 => by omega)) (?_ : Pt 88 _ _ 31 _)
  refine u_putr A (j := 8) fl_X7_54 fq_7_8 (fun C T N h => by cases h; rfl) rfl rfl (Nat.le_of_ble_eq_true rfl) (fs' := [rV g 1, rV g 3, rV g 9, rV g 15, rV g 16, rV g 17, rV g 18, rV g 19, rV g 27, .null, .null, .int 0, .int 0]) rfl dX7_init_88 (?_ : Pt 91 _ _ 31 _)
  refine c_aload A 0 dX7_init_91 rfl (?_ : Pt 92 _ _ 31 _)
  refine c_new A (ci := 5) (fs := df5) rfl inX5 tyX5_ok cl_X7_58 it_X5 ni_X5 (df_ok5) (by decide) (by decide) dX7_init_92 ?_
  refine (?_ : Pt 95 _ _ 32 _)
  refine c_dup A dX7_init_95 rfl (?_ : Pt 96 _ _ 32 _)
  refine c_callN A (d := 1) (k := 32) (As := []) (rest := [rV g 32, rV g 0]) cb_X5_init rfl ci_X5_init (by decide +kernel) (by decide) (by decide) rfl (Nat.le_of_ble_eq_true rfl) dX7_init_96 (L_ini5 g 32 _ rfl (by simp [cset])) ?_
  refine c_cong A (fin_cS (fun k h1 h2 => by omega)) (?_ : Pt 99 _ _ 35 _)
  refine u_putr A (j := 9) fl_X7_61 fq_7_9 (fun C T N h => by cases h; rfl) rfl rfl (Nat.le_of_ble_eq_true rfl) (fs' := [rV g 1, rV g 3, rV g 9, rV g 15, rV g 16, rV g 17, rV g 18, rV g 19, rV g 27, rV g 32, .null, .int 0, .int 0]) rfl dX7_init_99 (?_ : Pt 102 _ _ 35 _)
  refine c_aload A 0 dX7_init_102 rfl (?_ : Pt 103 _ _ 35 _)
  refine c_new A (ci := 6) (fs := df6) rfl inX6 tyX6_ok cl_X7_65 it_X6 ni_X6 (df_ok6) (by decide) (by decide) dX7_init_103 ?_
  refine (?_ : Pt 106 _ _ 36 _)
  refine c_dup A dX7_init_106 rfl (?_ : Pt 107 _ _ 36 _)
  refine c_callN A (d := 1) (k := 36) (As := []) (rest := [rV g 36, rV g 0]) cb_X6_init rfl ci_X6_init (by decide +kernel) (by decide) (by decide) rfl (Nat.le_of_ble_eq_true rfl) dX7_init_107 (L_ini6 g 36 _ rfl (by simp [cset])) ?_
  refine c_cong A (fin_cS (fun k h1 h2 => by omega)) (?_ : Pt 110 _ _ 36 _)
  refine u_putr A (j := 10) fl_X7_68 fq_7_10 (fun C T N h => by cases h; rfl) rfl rfl (Nat.le_of_ble_eq_true rfl) (fs' := [rV g 1, rV g 3, rV g 9, rV g 15, rV g 16, rV g 17, rV g 18, rV g 19, rV g 27, rV g 32, rV g 36, .int 0, .int 0]) rfl dX7_init_110 (?_ : Pt 113 _ _ 36 _)
  refine c_aload A 0 dX7_init_113 rfl (?_ : Pt 114 _ _ 36 _)
  refine c_iconst A dX7_init_114 (?_ : Pt 115 _ _ 36 _)
  refine u_putz A (j := 11) (Or.inr rfl) fl_X7_72 fp_7_11 (Nat.le_of_ble_eq_true rfl) (fs' := [rV g 1, rV g 3, rV g 9, rV g 15, rV g 16, rV g 17, rV g 18, rV g 19, rV g 27, rV g 32, rV g 36, iV (1), .int 0]) rfl dX7_init_115 (?_ : Pt 118 _ _ 36 _)
  refine c_aload A 0 dX7_init_118 rfl (?_ : Pt 119 _ _ 36 _)
  refine c_iconst A dX7_init_119 (?_ : Pt 120 _ _ 36 _)
  refine u_putz A (j := 12) (Or.inr rfl) fl_X7_76 fp_7_12 (Nat.le_of_ble_eq_true rfl) (fs' := [rV g 1, rV g 3, rV g 9, rV g 15, rV g 16, rV g 17, rV g 18, rV g 19, rV g 27, rV g 32, rV g 36, iV (1), iV (1)]) rfl dX7_init_120 (?_ : Pt 123 _ _ 36 _)
  refine (?_ : Pt 123 [(0, rV g 0)] [] 36 (cS g (fsF g) nq nq nq))
  have h3 : Pt 202 [(0, rV g 0)] [] 166 (cS g (fsF g) (fI g 37 6 3) (fI g 55 2 4) (fI g 63 8 13)) := c_ret A rfl dX7_init_202 (he _ (fun _ _ => rfl))
  have h2 : Pt 175 [(0, rV g 0)] [] 62 (cS g (fsF g) (fI g 37 6 3) (fI g 55 2 4) nq) := by
    refine c_iconst A dX7_init_175 (?_ : Pt 176 _ _ _ _)
    refine c_istore A (L' := [(1, iV 0), (0, rV g 0)]) dX7_init_176 (by decide) rfl (?_ : Pt 177 _ _ _ _)
    refine c_loc A [1, 0] rfl ?_
    have := lp_C A h3 13 0 (by decide)
    rw [fI_0] at this
    exact this
  have h1 : Pt 149 [(0, rV g 0)] [] 54 (cS g (fsF g) (fI g 37 6 3) nq nq) := by
    refine c_iconst A dX7_init_149 (?_ : Pt 150 _ _ _ _)
    refine c_istore A (L' := [(1, iV 0), (0, rV g 0)]) dX7_init_150 (by decide) rfl (?_ : Pt 151 _ _ _ _)
    refine c_loc A [1, 0] rfl ?_
    have := lp_B A h2 4 0 (by decide)
    rw [fI_0] at this
    exact this
  refine c_iconst A dX7_init_123 (?_ : Pt 124 _ _ _ _)
  refine c_istore A (L' := [(1, iV 0), (0, rV g 0)]) dX7_init_124 (by decide) rfl (?_ : Pt 125 _ _ _ _)
  refine c_loc A [1, 0] rfl ?_
  have := lp_A A h1 3 0 (by decide)
  rw [fI_0] at this
  exact this
