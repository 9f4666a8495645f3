/-- the cells while the model is made -/
def cM (g : GT) (c : CF) (fs : List Value) (w : Nat → Int32) : CF := fun k => if k < 167 then c k else if k = 167 then .inr (8, fs) else if k = 168 then .inl (gA g 0, 4, .inl w) else cellE g k (h0 k)
theorem cM_put (g : GT) (c : CF) (fs fs' : List Value) (w : Nat → Int32) : cset (cM g c fs w) 167 (.inr (8, fs')) = cM g c fs' w := by
  funext k
  simp only [cset, cM]
  by_cases q : k = 167
  · subst q; simp
  · simp [q]
theorem cM_w (g : GT) (c : CF) (fs : List Value) (w w' : Nat → Int32) : cset (cM g c fs w) 168 (.inl (gA g 0, 4, .inl w')) = cM g c fs w' := by
  funext k
  simp only [cset, cM]
  by_cases q : k = 168
  · subst q; simp
  · simp [q]
def wZ (i : Nat) : Nat → Int32 := fun j => if j < i then Int32.ofInt (-1) else Int32.ofInt 0
theorem wZ_0 : wZ 0 = fun _ => Int32.ofInt 0 := by funext j; simp [wZ]
theorem wZ_up (i : Nat) : upd (wZ i) i (Int32.ofInt (-1)) = wZ (i + 1) := by
  funext j
  simp only [upd, wZ]
  by_cases h : j = i
  · subst h; simp
  · by_cases h2 : j < i
    · simp [h, h2, show j < i + 1 by omega]
    · simp [h, h2, show ¬ j < i + 1 by omega]
theorem wZ_4 (g : GT) : cellE g 168 (h0 168) = .inl (gA g 0, 4, .inl (wZ 4)) := by
  rw [cE_i (n := 4) rfl]
  congr 4
  funext j
  simp only [wZ, h0]
  by_cases h : j < 4
  · simp [h, show (0 : Int) ≤ (j : Int) ∧ (j : Int) < 4 by omega]
  · have h2 : ¬ ((j : Int) < 4) := by omega
    simp [h, h2]
section CT3
variable {g : GT} {Pt : Nat → List (Nat × Value) → List Value → Nat → CF → Prop} {En : CF → Prop} {pc : Nat} {L : List (Nat × Value)} {st : List Value} {n : Nat} {fs : List Value} {c : CF} {w : Nat → Int32}
theorem v_put (A : AmbC true g cX8_init RX8 (0 + 1) 2 168 18 Pt En) {j idx : Nat} {z : Int} {fs' : List Value} (hf : FL RX8 idx 8 j) (hp : FP 8 j .int) (hl0 : j < fs.length) (hs : fs.set j (iV z) = fs') (hdg : decode cX8_init pc = .ok (.putfield idx, 3)) (kk : Pt (pc + 3) L st n (cM g c fs' w)) : Pt pc L (iV z :: rV g 167 :: st) n (cM g c fs w) := by
  refine c_putn A (by omega) (fs := fs) (ci := 8) (by simp [cM]) hf hp rfl rfl hl0 hdg ?_
  rw [cM_put, hs]
  exact kk
theorem v_putr (A : AmbC true g cX8_init RX8 (0 + 1) 2 168 18 Pt En) {j idx x : Nat} {ty : FieldType} {fs' : List Value} (hf : FL RX8 idx 8 j) (hp : FQ RX8 8 j ty) (hfin : ∀ C T N, vwCl[8]? = some (C, T, N) → (T j).2.2.2 = true) (hnr : narrow ty (rV g x) = rV g x) (hft : fits ty (rV g x) = true) (hl0 : j < fs.length) (hs : fs.set j (rV g x) = fs') (hdg : decode cX8_init pc = .ok (.putfield idx, 3)) (kk : Pt (pc + 3) L st n (cM g c fs' w)) : Pt pc L (rV g x :: rV g 167 :: st) n (cM g c fs w) := by
  refine c_putF A (by omega) (fs := fs) (ci := 8) (by simp [cM]) hf hp hfin hnr hft hl0 hdg ?_
  rw [cM_put, hs]
  exact kk
theorem cM_new {e : va_E} {a : Nat} (ha : 168 < a) (he : cellE g a (h0 a) = e) (k : Nat) : cset (cM g c fs w) a e k = cM g c fs w k := by
  simp only [cset, cM]
  by_cases h1 : k = a
  · subst h1
    simp [show ¬ k < 167 by omega, show ¬ k = 167 by omega, show ¬ k = 168 by omega, he]
  · simp [h1]
end CT3
def fsG (g : GT) : List Value := [.int 0, rV g 168, rV g 169, rV g 170, rV g 171, rV g 172, .int 0, .int 0, .int 0, .int 0, .int 0, .long 0, .int 0, .int 0, .int 0, iV (-1), rV g 173, rV g 174, rV g 175, rV g 176, rV g 177, rV g 178, rV g 179, rV g 180, rV g 181, rV g 182, .int 0, rV g 183, .int 0, .int 0, .int 0, .int 0, rV g 184, .int 0, .int 0, .int 0, .int 0, .int 0, .int 0, rV g 185]
theorem fsG_ok (g : GT) : cellE g 167 (h0 167) = .inr (8, fsG g) := by
  rw [cE_o (c := 8) (n := 40) rfl]
  simp [objV, fdT, fdV, fsG, h0, iV, rV, List.mapIdx_cons]
set_option maxRecDepth 100000 in
set_option maxHeartbeats 4000000 in
theorem lp_D {g : GT} {c : CF} {Pt : Nat → List (Nat × Value) → List Value → Nat → CF → Prop} {En : CF → Prop} (A : AmbC true g cX8_init RX8 (0 + 1) 2 168 18 Pt En) (kk : Pt 173 [(0, rV g 167)] [] 18 (cM g c (fsG g) (wZ 4))) : ∀ (r i : Nat), i + r = 4 → Pt 155 [(0, rV g 167), (1, iV (i : Int))] [] 18 (cM g c (fsG g) (wZ i)) := by
  intro r
  induction r with
  | zero =>
    intro i hi
    have hi : i = 4 := by omega
    subst hi
    refine c_iload A 1 dX8_init_155 rfl (?_ : Pt 156 _ _ _ _)
    refine c_iconst A dX8_init_156 (?_ : Pt 157 _ _ _ _)
    refine c_ge A dX8_init_157 (by decide) (fun h => ?_) (fun _ => (?_ : Pt 173 _ _ _ _))
    · exfalso
      rw [wr_id (by omega), wr_id (by omega)] at h
      omega
    · exact c_loc A [0] rfl kk
  | succ r ih =>
    intro i hi
    refine c_iload A 1 dX8_init_155 rfl (?_ : Pt 156 _ _ _ _)
    refine c_iconst A dX8_init_156 (?_ : Pt 157 _ _ _ _)
    refine c_ge A (tgt := 173) dX8_init_157 (by decide) (fun _ => (?_ : Pt 160 _ _ _ _)) (fun h => by exfalso; rw [wr_id (by omega), wr_id (by omega)] at h; omega)
    refine c_aload A 0 dX8_init_160 rfl (?_ : Pt 161 _ _ _ _)
    refine c_get A (k := 167) (ci := 8) (fs := fsG g) (j := 1) (by omega) (by simp [cM]) fl_X8_7 rfl dX8_init_161 (?_ : Pt 164 _ (rV g 168 :: _) _ _)
    refine c_iload A 1 dX8_init_164 rfl (?_ : Pt 165 _ _ _ _)
    refine c_iconst A dX8_init_165 (?_ : Pt 166 _ _ _ _)
    have hw : wr (i : Int) = (i : Int) := wr_id (by omega)
    refine c_iast A (N := 4) (f := wZ i) (by omega) (by simp [cM]) (by rw [hw]; omega) dX8_init_166 ?_
    rw [hw, Int.toNat_natCast, wZ_up, cM_w]
    refine c_iinc A (L' := [(1, iV ((i : Int) + 1)), (0, rV g 167)]) 1 dX8_init_167 rfl (by decide) rfl (?_ : Pt 170 _ _ _ _)
    refine c_goto A dX8_init_170 (by decide) (?_ : Pt 155 _ _ _ _)
    have := ih (i + 1) (by omega)
    refine c_loc A [1, 0] rfl ?_
    exact this
set_option maxRecDepth 100000 in
set_option maxHeartbeats 4000000 in
theorem L_ini8 (g : GT) (c : CF) (hc : c 167 = .inr (8, df8)) : LmC g 1 18 yX8_init cX8_init 2 [rV g 167] 168 c (fin0 g c 167) := by
  refine LmC.of (by decide) rfl (Nat.le_of_ble_eq_true rfl) (fun Pt En A he => ?_)
  have A : AmbC true g cX8_init RX8 (0 + 1) 2 168 18 Pt En := A
  refine (?_ : Pt 0 [(0, rV g 167)] [] 0 c)
  refine c_cong A (c' := cM g c df8 (wZ 0)) (fun k hk => ?_) ?_
  · by_cases h1 : k = 167
    · subst h1; rw [hc]; simp [cM]
    · simp [cM, show k < 167 by omega]
  refine c_aload A 0 dX8_init_0 rfl (?_ : Pt 1 _ _ 0 _)
  refine c_obj A objW lo_X8 (Nat.le_of_ble_eq_true rfl) dX8_init_1 (?_ : Pt 4 _ _ 0 _)
  refine c_aload A 0 dX8_init_4 rfl (?_ : Pt 5 _ _ 0 _)
  refine c_iconst A dX8_init_5 (?_ : Pt 6 _ _ 0 _)
  refine c_newa A 0 (N := 4) (a0 := (4, .inl (fun _ => Int32.ofInt 0))) ac_int rfl rfl (fun C h => by cases h) (fun cA => rfl) (wr_id (by decide)) (by decide) (by decide) (by decide) dX8_init_6 ?_
  refine c_cong A (fun k _ => congrFun (cset_same (by simp [cM, wZ_0])) k) (?_ : Pt 8 _ _ 1 _)
  refine v_putr A (j := 1) fl_X8_7 fq_8_1 (fun C T N h => by cases h; rfl) rfl rfl (Nat.le_of_ble_eq_true rfl) (fs' := [.int 0, rV g 168, .null, .null, .null, .null, .int 0, .int 0, .int 0, .int 0, .int 0, .long 0, .int 0, .int 0, .int 0, .int 0, .null, .null, .null, .null, .null, .null, .null, .null, .null, .null, .int 0, .null, .int 0, .int 0, .int 0, .int 0, .null, .int 0, .int 0, .int 0, .int 0, .int 0, .int 0, .null]) rfl dX8_init_8 (?_ : Pt 11 _ _ 1 _)
  refine c_aload A 0 dX8_init_11 rfl (?_ : Pt 12 _ _ 1 _)
  refine c_iconst A dX8_init_12 (?_ : Pt 13 _ _ 1 _)
  refine c_newa A 0 (N := 4) (a0 := (4, .inl (fun _ => Int32.ofInt 0))) ac_int rfl rfl (fun C h => by cases h) (fun cA => rfl) (wr_id (by decide)) (by decide) (by decide) (by decide) dX8_init_13 ?_
  refine c_cong A (fun k _ => cM_new (by decide) (by rw [cE_i (n := 4) rfl, h0_z (by decide)]) k) (?_ : Pt 15 _ _ 2 _)
  refine v_putr A (j := 2) fl_X8_13 fq_8_2 (fun C T N h => by cases h; rfl) rfl rfl (Nat.le_of_ble_eq_true rfl) (fs' := [.int 0, rV g 168, rV g 169, .null, .null, .null, .int 0, .int 0, .int 0, .int 0, .int 0, .long 0, .int 0, .int 0, .int 0, .int 0, .null, .null, .null, .null, .null, .null, .null, .null, .null, .null, .int 0, .null, .int 0, .int 0, .int 0, .int 0, .null, .int 0, .int 0, .int 0, .int 0, .int 0, .int 0, .null]) rfl dX8_init_15 (?_ : Pt 18 _ _ 2 _)
  refine c_aload A 0 dX8_init_18 rfl (?_ : Pt 19 _ _ 2 _)
  refine c_sipush A dX8_init_19 (by decide) (?_ : Pt 22 _ _ 2 _)
  refine c_newa A 1 (N := 240) (a0 := (240, .inr (.inl (fun _ => Int64.ofInt 0)))) ac_long rfl rfl (fun C h => by cases h) (fun cA => rfl) (wr_id (by decide)) (by decide) (by decide) (by decide) dX8_init_22 ?_
  refine c_cong A (fun k _ => cM_new (by decide) (by rw [cE_l (n := 240) rfl, h0_z (by decide)]) k) (?_ : Pt 24 _ _ 3 _)
  refine v_putr A (j := 3) fl_X8_16 fq_8_3 (fun C T N h => by cases h; rfl) rfl rfl (Nat.le_of_ble_eq_true rfl) (fs' := [.int 0, rV g 168, rV g 169, rV g 170, .null, .null, .int 0, .int 0, .int 0, .int 0, .int 0, .long 0, .int 0, .int 0, .int 0, .int 0, .null, .null, .null, .null, .null, .null, .null, .null, .null, .null, .int 0, .null, .int 0, .int 0, .int 0, .int 0, .null, .int 0, .int 0, .int 0, .int 0, .int 0, .int 0, .null]) rfl dX8_init_24 (?_ : Pt 27 _ _ 3 _)
  refine c_aload A 0 dX8_init_27 rfl (?_ : Pt 28 _ _ 3 _)
  refine c_bipush A dX8_init_28 (by decide) (?_ : Pt 30 _ _ 3 _)
  refine c_newa A 1 (N := 60) (a0 := (60, .inr (.inl (fun _ => Int64.ofInt 0)))) ac_long rfl rfl (fun C h => by cases h) (fun cA => rfl) (wr_id (by decide)) (by decide) (by decide) (by decide) dX8_init_30 ?_
  refine c_cong A (fun k _ => cM_new (by decide) (by rw [cE_l (n := 60) rfl, h0_z (by decide)]) k) (?_ : Pt 32 _ _ 4 _)
  refine v_putr A (j := 4) fl_X8_20 fq_8_4 (fun C T N h => by cases h; rfl) rfl rfl (Nat.le_of_ble_eq_true rfl) (fs' := [.int 0, rV g 168, rV g 169, rV g 170, rV g 171, .null, .int 0, .int 0, .int 0, .int 0, .int 0, .long 0, .int 0, .int 0, .int 0, .int 0, .null, .null, .null, .null, .null, .null, .null, .null, .null, .null, .int 0, .null, .int 0, .int 0, .int 0, .int 0, .null, .int 0, .int 0, .int 0, .int 0, .int 0, .int 0, .null]) rfl dX8_init_32 (?_ : Pt 35 _ _ 4 _)
  refine c_aload A 0 dX8_init_35 rfl (?_ : Pt 36 _ _ 4 _)
  refine c_sipush A dX8_init_36 (by decide) (?_ : Pt 39 _ _ 4 _)
  refine c_newa A 2 (N := 800) (a0 := (800, .inl (fun _ => Int32.ofInt 0))) ac_byte rfl rfl (fun C h => by cases h) (fun cA => rfl) (wr_id (by decide)) (by decide) (by decide) (by decide) dX8_init_39 ?_
  refine c_cong A (fun k _ => cM_new (by decide) (by rw [cE_b (n := 800) rfl, h0_z (by decide)]) k) (?_ : Pt 41 _ _ 5 _)
  refine v_putr A (j := 5) fl_X8_23 fq_8_5 (fun C T N h => by cases h; rfl) rfl rfl (Nat.le_of_ble_eq_true rfl) (fs' := [.int 0, rV g 168, rV g 169, rV g 170, rV g 171, rV g 172, .int 0, .int 0, .int 0, .int 0, .int 0, .long 0, .int 0, .int 0, .int 0, .int 0, .null, .null, .null, .null, .null, .null, .null, .null, .null, .null, .int 0, .null, .int 0, .int 0, .int 0, .int 0, .null, .int 0, .int 0, .int 0, .int 0, .int 0, .int 0, .null]) rfl dX8_init_41 (?_ : Pt 44 _ _ 5 _)
  refine c_aload A 0 dX8_init_44 rfl (?_ : Pt 45 _ _ 5 _)
  refine c_iconst A dX8_init_45 (?_ : Pt 46 _ _ 5 _)
  refine v_put A (j := 15) fl_X8_27 fp_8_15 (Nat.le_of_ble_eq_true rfl) (fs' := [.int 0, rV g 168, rV g 169, rV g 170, rV g 171, rV g 172, .int 0, .int 0, .int 0, .int 0, .int 0, .long 0, .int 0, .int 0, .int 0, iV (-1), .null, .null, .null, .null, .null, .null, .null, .null, .null, .null, .int 0, .null, .int 0, .int 0, .int 0, .int 0, .null, .int 0, .int 0, .int 0, .int 0, .int 0, .int 0, .null]) rfl dX8_init_46 (?_ : Pt 49 _ _ 5 _)
  refine c_aload A 0 dX8_init_49 rfl (?_ : Pt 50 _ _ 5 _)
  refine c_iconst A dX8_init_50 (?_ : Pt 51 _ _ 5 _)
  refine c_newa A 0 (N := 5) (a0 := (5, .inl (fun _ => Int32.ofInt 0))) ac_int rfl rfl (fun C h => by cases h) (fun cA => rfl) (wr_id (by decide)) (by decide) (by decide) (by decide) dX8_init_51 ?_
  refine c_cong A (fun k _ => cM_new (by decide) (by rw [cE_i (n := 5) rfl, h0_z (by decide)]) k) (?_ : Pt 53 _ _ 6 _)
  refine v_putr A (j := 16) fl_X8_31 fq_8_16 (fun C T N h => by cases h; rfl) rfl rfl (Nat.le_of_ble_eq_true rfl) (fs' := [.int 0, rV g 168, rV g 169, rV g 170, rV g 171, rV g 172, .int 0, .int 0, .int 0, .int 0, .int 0, .long 0, .int 0, .int 0, .int 0, iV (-1), rV g 173, .null, .null, .null, .null, .null, .null, .null, .null, .null, .int 0, .null, .int 0, .int 0, .int 0, .int 0, .null, .int 0, .int 0, .int 0, .int 0, .int 0, .int 0, .null]) rfl dX8_init_53 (?_ : Pt 56 _ _ 6 _)
  refine c_aload A 0 dX8_init_56 rfl (?_ : Pt 57 _ _ 6 _)
  refine c_bipush A dX8_init_57 (by decide) (?_ : Pt 59 _ _ 6 _)
  refine c_newa A 0 (N := 30) (a0 := (30, .inl (fun _ => Int32.ofInt 0))) ac_int rfl rfl (fun C h => by cases h) (fun cA => rfl) (wr_id (by decide)) (by decide) (by decide) (by decide) dX8_init_59 ?_
  refine c_cong A (fun k _ => cM_new (by decide) (by rw [cE_i (n := 30) rfl, h0_z (by decide)]) k) (?_ : Pt 61 _ _ 7 _)
  refine v_putr A (j := 17) fl_X8_34 fq_8_17 (fun C T N h => by cases h; rfl) rfl rfl (Nat.le_of_ble_eq_true rfl) (fs' := [.int 0, rV g 168, rV g 169, rV g 170, rV g 171, rV g 172, .int 0, .int 0, .int 0, .int 0, .int 0, .long 0, .int 0, .int 0, .int 0, iV (-1), rV g 173, rV g 174, .null, .null, .null, .null, .null, .null, .null, .null, .int 0, .null, .int 0, .int 0, .int 0, .int 0, .null, .int 0, .int 0, .int 0, .int 0, .int 0, .int 0, .null]) rfl dX8_init_61 (?_ : Pt 64 _ _ 7 _)
  refine c_aload A 0 dX8_init_64 rfl (?_ : Pt 65 _ _ 7 _)
  refine c_sipush A dX8_init_65 (by decide) (?_ : Pt 68 _ _ 7 _)
  refine c_newa A 0 (N := 150) (a0 := (150, .inl (fun _ => Int32.ofInt 0))) ac_int rfl rfl (fun C h => by cases h) (fun cA => rfl) (wr_id (by decide)) (by decide) (by decide) (by decide) dX8_init_68 ?_
  refine c_cong A (fun k _ => cM_new (by decide) (by rw [cE_i (n := 150) rfl, h0_z (by decide)]) k) (?_ : Pt 70 _ _ 8 _)
  refine v_putr A (j := 18) fl_X8_37 fq_8_18 (fun C T N h => by cases h; rfl) rfl rfl (Nat.le_of_ble_eq_true rfl) (fs' := [.int 0, rV g 168, rV g 169, rV g 170, rV g 171, rV g 172, .int 0, .int 0, .int 0, .int 0, .int 0, .long 0, .int 0, .int 0, .int 0, iV (-1), rV g 173, rV g 174, rV g 175, .null, .null, .null, .null, .null, .null, .null, .int 0, .null, .int 0, .int 0, .int 0, .int 0, .null, .int 0, .int 0, .int 0, .int 0, .int 0, .int 0, .null]) rfl dX8_init_70 (?_ : Pt 73 _ _ 8 _)
  refine c_aload A 0 dX8_init_73 rfl (?_ : Pt 74 _ _ 8 _)
  refine c_sipush A dX8_init_74 (by decide) (?_ : Pt 77 _ _ 8 _)
  refine c_newa A 0 (N := 800) (a0 := (800, .inl (fun _ => Int32.ofInt 0))) ac_int rfl rfl (fun C h => by cases h) (fun cA => rfl) (wr_id (by decide)) (by decide) (by decide) (by decide) dX8_init_77 ?_
  refine c_cong A (fun k _ => cM_new (by decide) (by rw [cE_i (n := 800) rfl, h0_z (by decide)]) k) (?_ : Pt 79 _ _ 9 _)
  refine v_putr A (j := 19) fl_X8_40 fq_8_19 (fun C T N h => by cases h; rfl) rfl rfl (Nat.le_of_ble_eq_true rfl) (fs' := [.int 0, rV g 168, rV g 169, rV g 170, rV g 171, rV g 172, .int 0, .int 0, .int 0, .int 0, .int 0, .long 0, .int 0, .int 0, .int 0, iV (-1), rV g 173, rV g 174, rV g 175, rV g 176, .null, .null, .null, .null, .null, .null, .int 0, .null, .int 0, .int 0, .int 0, .int 0, .null, .int 0, .int 0, .int 0, .int 0, .int 0, .int 0, .null]) rfl dX8_init_79 (?_ : Pt 82 _ _ 9 _)
  refine c_aload A 0 dX8_init_82 rfl (?_ : Pt 83 _ _ 9 _)
  refine c_iconst A dX8_init_83 (?_ : Pt 84 _ _ 9 _)
  refine c_newa A 3 (N := 3) (a0 := (3, .inl (fun _ => Int32.ofInt 0))) ac_boolean rfl rfl (fun C h => by cases h) (fun cA => rfl) (wr_id (by decide)) (by decide) (by decide) (by decide) dX8_init_84 ?_
  refine c_cong A (fun k _ => cM_new (by decide) (by rw [cE_z (n := 3) rfl, h0_z (by decide)]) k) (?_ : Pt 86 _ _ 10 _)
  refine v_putr A (j := 20) fl_X8_43 fq_8_20 (fun C T N h => by cases h; rfl) rfl rfl (Nat.le_of_ble_eq_true rfl) (fs' := [.int 0, rV g 168, rV g 169, rV g 170, rV g 171, rV g 172, .int 0, .int 0, .int 0, .int 0, .int 0, .long 0, .int 0, .int 0, .int 0, iV (-1), rV g 173, rV g 174, rV g 175, rV g 176, rV g 177, .null, .null, .null, .null, .null, .int 0, .null, .int 0, .int 0, .int 0, .int 0, .null, .int 0, .int 0, .int 0, .int 0, .int 0, .int 0, .null]) rfl dX8_init_86 (?_ : Pt 89 _ _ 10 _)
  refine c_aload A 0 dX8_init_89 rfl (?_ : Pt 90 _ _ 10 _)
  refine c_bipush A dX8_init_90 (by decide) (?_ : Pt 92 _ _ 10 _)
  refine c_newa A 0 (N := 30) (a0 := (30, .inl (fun _ => Int32.ofInt 0))) ac_int rfl rfl (fun C h => by cases h) (fun cA => rfl) (wr_id (by decide)) (by decide) (by decide) (by decide) dX8_init_92 ?_
  refine c_cong A (fun k _ => cM_new (by decide) (by rw [cE_i (n := 30) rfl, h0_z (by decide)]) k) (?_ : Pt 94 _ _ 11 _)
  refine v_putr A (j := 21) fl_X8_47 fq_8_21 (fun C T N h => by cases h; rfl) rfl rfl (Nat.le_of_ble_eq_true rfl) (fs' := [.int 0, rV g 168, rV g 169, rV g 170, rV g 171, rV g 172, .int 0, .int 0, .int 0, .int 0, .int 0, .long 0, .int 0, .int 0, .int 0, iV (-1), rV g 173, rV g 174, rV g 175, rV g 176, rV g 177, rV g 178, .null, .null, .null, .null, .int 0, .null, .int 0, .int 0, .int 0, .int 0, .null, .int 0, .int 0, .int 0, .int 0, .int 0, .int 0, .null]) rfl dX8_init_94 (?_ : Pt 97 _ _ 11 _)
  refine c_aload A 0 dX8_init_97 rfl (?_ : Pt 98 _ _ 11 _)
  refine c_bipush A dX8_init_98 (by decide) (?_ : Pt 100 _ _ 11 _)
  refine c_newa A 0 (N := 6) (a0 := (6, .inl (fun _ => Int32.ofInt 0))) ac_int rfl rfl (fun C h => by cases h) (fun cA => rfl) (wr_id (by decide)) (by decide) (by decide) (by decide) dX8_init_100 ?_
  refine c_cong A (fun k _ => cM_new (by decide) (by rw [cE_i (n := 6) rfl, h0_z (by decide)]) k) (?_ : Pt 102 _ _ 12 _)
  refine v_putr A (j := 22) fl_X8_50 fq_8_22 (fun C T N h => by cases h; rfl) rfl rfl (Nat.le_of_ble_eq_true rfl) (fs' := [.int 0, rV g 168, rV g 169, rV g 170, rV g 171, rV g 172, .int 0, .int 0, .int 0, .int 0, .int 0, .long 0, .int 0, .int 0, .int 0, iV (-1), rV g 173, rV g 174, rV g 175, rV g 176, rV g 177, rV g 178, rV g 179, .null, .null, .null, .int 0, .null, .int 0, .int 0, .int 0, .int 0, .null, .int 0, .int 0, .int 0, .int 0, .int 0, .int 0, .null]) rfl dX8_init_102 (?_ : Pt 105 _ _ 12 _)
  refine c_aload A 0 dX8_init_105 rfl (?_ : Pt 106 _ _ 12 _)
  refine c_bipush A dX8_init_106 (by decide) (?_ : Pt 108 _ _ 12 _)
  refine c_newa A 0 (N := 6) (a0 := (6, .inl (fun _ => Int32.ofInt 0))) ac_int rfl rfl (fun C h => by cases h) (fun cA => rfl) (wr_id (by decide)) (by decide) (by decide) (by decide) dX8_init_108 ?_
  refine c_cong A (fun k _ => cM_new (by decide) (by rw [cE_i (n := 6) rfl, h0_z (by decide)]) k) (?_ : Pt 110 _ _ 13 _)
  refine v_putr A (j := 23) fl_X8_53 fq_8_23 (fun C T N h => by cases h; rfl) rfl rfl (Nat.le_of_ble_eq_true rfl) (fs' := [.int 0, rV g 168, rV g 169, rV g 170, rV g 171, rV g 172, .int 0, .int 0, .int 0, .int 0, .int 0, .long 0, .int 0, .int 0, .int 0, iV (-1), rV g 173, rV g 174, rV g 175, rV g 176, rV g 177, rV g 178, rV g 179, rV g 180, .null, .null, .int 0, .null, .int 0, .int 0, .int 0, .int 0, .null, .int 0, .int 0, .int 0, .int 0, .int 0, .int 0, .null]) rfl dX8_init_110 (?_ : Pt 113 _ _ 13 _)
  refine c_aload A 0 dX8_init_113 rfl (?_ : Pt 114 _ _ 13 _)
  refine c_bipush A dX8_init_114 (by decide) (?_ : Pt 116 _ _ 13 _)
  refine c_newa A 0 (N := 6) (a0 := (6, .inl (fun _ => Int32.ofInt 0))) ac_int rfl rfl (fun C h => by cases h) (fun cA => rfl) (wr_id (by decide)) (by decide) (by decide) (by decide) dX8_init_116 ?_
  refine c_cong A (fun k _ => cM_new (by decide) (by rw [cE_i (n := 6) rfl, h0_z (by decide)]) k) (?_ : Pt 118 _ _ 14 _)
  refine v_putr A (j := 24) fl_X8_56 fq_8_24 (fun C T N h => by cases h; rfl) rfl rfl (Nat.le_of_ble_eq_true rfl) (fs' := [.int 0, rV g 168, rV g 169, rV g 170, rV g 171, rV g 172, .int 0, .int 0, .int 0, .int 0, .int 0, .long 0, .int 0, .int 0, .int 0, iV (-1), rV g 173, rV g 174, rV g 175, rV g 176, rV g 177, rV g 178, rV g 179, rV g 180, rV g 181, .null, .int 0, .null, .int 0, .int 0, .int 0, .int 0, .null, .int 0, .int 0, .int 0, .int 0, .int 0, .int 0, .null]) rfl dX8_init_118 (?_ : Pt 121 _ _ 14 _)
  refine c_aload A 0 dX8_init_121 rfl (?_ : Pt 122 _ _ 14 _)
  refine c_bipush A dX8_init_122 (by decide) (?_ : Pt 124 _ _ 14 _)
  refine c_newa A 0 (N := 6) (a0 := (6, .inl (fun _ => Int32.ofInt 0))) ac_int rfl rfl (fun C h => by cases h) (fun cA => rfl) (wr_id (by decide)) (by decide) (by decide) (by decide) dX8_init_124 ?_
  refine c_cong A (fun k _ => cM_new (by decide) (by rw [cE_i (n := 6) rfl, h0_z (by decide)]) k) (?_ : Pt 126 _ _ 15 _)
  refine v_putr A (j := 25) fl_X8_59 fq_8_25 (fun C T N h => by cases h; rfl) rfl rfl (Nat.le_of_ble_eq_true rfl) (fs' := [.int 0, rV g 168, rV g 169, rV g 170, rV g 171, rV g 172, .int 0, .int 0, .int 0, .int 0, .int 0, .long 0, .int 0, .int 0, .int 0, iV (-1), rV g 173, rV g 174, rV g 175, rV g 176, rV g 177, rV g 178, rV g 179, rV g 180, rV g 181, rV g 182, .int 0, .null, .int 0, .int 0, .int 0, .int 0, .null, .int 0, .int 0, .int 0, .int 0, .int 0, .int 0, .null]) rfl dX8_init_126 (?_ : Pt 129 _ _ 15 _)
  refine c_aload A 0 dX8_init_129 rfl (?_ : Pt 130 _ _ 15 _)
  refine c_bipush A dX8_init_130 (by decide) (?_ : Pt 132 _ _ 15 _)
  refine c_newa A 0 (N := 6) (a0 := (6, .inl (fun _ => Int32.ofInt 0))) ac_int rfl rfl (fun C h => by cases h) (fun cA => rfl) (wr_id (by decide)) (by decide) (by decide) (by decide) dX8_init_132 ?_
  refine c_cong A (fun k _ => cM_new (by decide) (by rw [cE_i (n := 6) rfl, h0_z (by decide)]) k) (?_ : Pt 134 _ _ 16 _)
  refine v_putr A (j := 27) fl_X8_62 fq_8_27 (fun C T N h => by cases h; rfl) rfl rfl (Nat.le_of_ble_eq_true rfl) (fs' := [.int 0, rV g 168, rV g 169, rV g 170, rV g 171, rV g 172, .int 0, .int 0, .int 0, .int 0, .int 0, .long 0, .int 0, .int 0, .int 0, iV (-1), rV g 173, rV g 174, rV g 175, rV g 176, rV g 177, rV g 178, rV g 179, rV g 180, rV g 181, rV g 182, .int 0, rV g 183, .int 0, .int 0, .int 0, .int 0, .null, .int 0, .int 0, .int 0, .int 0, .int 0, .int 0, .null]) rfl dX8_init_134 (?_ : Pt 137 _ _ 16 _)
  refine c_aload A 0 dX8_init_137 rfl (?_ : Pt 138 _ _ 16 _)
  refine c_bipush A dX8_init_138 (by decide) (?_ : Pt 140 _ _ 16 _)
  refine c_newa A 0 (N := 6) (a0 := (6, .inl (fun _ => Int32.ofInt 0))) ac_int rfl rfl (fun C h => by cases h) (fun cA => rfl) (wr_id (by decide)) (by decide) (by decide) (by decide) dX8_init_140 ?_
  refine c_cong A (fun k _ => cM_new (by decide) (by rw [cE_i (n := 6) rfl, h0_z (by decide)]) k) (?_ : Pt 142 _ _ 17 _)
  refine v_putr A (j := 32) fl_X8_65 fq_8_32 (fun C T N h => by cases h; rfl) rfl rfl (Nat.le_of_ble_eq_true rfl) (fs' := [.int 0, rV g 168, rV g 169, rV g 170, rV g 171, rV g 172, .int 0, .int 0, .int 0, .int 0, .int 0, .long 0, .int 0, .int 0, .int 0, iV (-1), rV g 173, rV g 174, rV g 175, rV g 176, rV g 177, rV g 178, rV g 179, rV g 180, rV g 181, rV g 182, .int 0, rV g 183, .int 0, .int 0, .int 0, .int 0, rV g 184, .int 0, .int 0, .int 0, .int 0, .int 0, .int 0, .null]) rfl dX8_init_142 (?_ : Pt 145 _ _ 17 _)
  refine c_aload A 0 dX8_init_145 rfl (?_ : Pt 146 _ _ 17 _)
  refine c_bipush A dX8_init_146 (by decide) (?_ : Pt 148 _ _ 17 _)
  refine c_newa A 0 (N := 6) (a0 := (6, .inl (fun _ => Int32.ofInt 0))) ac_int rfl rfl (fun C h => by cases h) (fun cA => rfl) (wr_id (by decide)) (by decide) (by decide) (by decide) dX8_init_148 ?_
  refine c_cong A (fun k _ => cM_new (by decide) (by rw [cE_i (n := 6) rfl, h0_z (by decide)]) k) (?_ : Pt 150 _ _ 18 _)
  refine v_putr A (j := 39) fl_X8_68 fq_8_39 (fun C T N h => by cases h; rfl) rfl rfl (Nat.le_of_ble_eq_true rfl) (fs' := [.int 0, rV g 168, rV g 169, rV g 170, rV g 171, rV g 172, .int 0, .int 0, .int 0, .int 0, .int 0, .long 0, .int 0, .int 0, .int 0, iV (-1), rV g 173, rV g 174, rV g 175, rV g 176, rV g 177, rV g 178, rV g 179, rV g 180, rV g 181, rV g 182, .int 0, rV g 183, .int 0, .int 0, .int 0, .int 0, rV g 184, .int 0, .int 0, .int 0, .int 0, .int 0, .int 0, rV g 185]) rfl dX8_init_150 (?_ : Pt 153 _ _ 18 _)
  refine (?_ : Pt 153 [(0, rV g 167)] [] 18 (cM g c (fsG g) (wZ 0)))
  have h1 : Pt 173 [(0, rV g 167)] [] 18 (cM g c (fsG g) (wZ 4)) := by
    refine c_ret A rfl dX8_init_173 (he _ (fun k hk => ?_))
    simp only [cM, fin0]
    by_cases q1 : k < 167
    · simp [q1]
    · by_cases q2 : k = 167
      · subst q2; simp [fsG_ok]
      · by_cases q3 : k = 168
        · subst q3; simp [wZ_4]
        · simp [q1, q2, q3]
  refine c_iconst A dX8_init_153 (?_ : Pt 154 _ _ _ _)
  refine c_istore A (L' := [(1, iV 0), (0, rV g 167)]) dX8_init_154 (by decide) rfl (?_ : Pt 155 _ _ _ _)
  refine c_loc A [1, 0] rfl ?_
  exact lp_D A h1 4 0 (by decide)
