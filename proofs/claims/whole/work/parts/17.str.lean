/-! String.length and charAt of the eight constants -/
def jd_length (j : Nat) : Option Int := some ((sLen.getD j 0 : Nat) : Int)
def jd_charAt (j : Nat) (i : Int) : Option Int := chk (0 ≤ wr i ∧ wr i < ((sLen.getD j 0 : Nat) : Int)) (some (((sByt.getD j []).getD (wr i).toNat 0).toInt))
def vV (g : GT) (j : Nat) : Value := .ref (gv g j)
section STRX
variable {g : GT} {cc : ByteArray} {own : String} {d nL : Nat} {rt : Option FieldType} {Pt : Nat → List (Nat × Value) → List Value → Hp → Prop} {En : Option Value → Hp → Prop} {pc : Nat} {L : List (Nat × Value)} {st : List Value} {h : Hp}
theorem s_getsC (A : Amb g cc own d nL rt Pt En) {idx : Nat} (hf : Cond.fieldLink own idx "java/lang/String" "COMPACT_STRINGS" "Z" ∈ GW) (hdg : decode cc pc = .ok (.getstatic idx, 3)) (kk : Pt (pc + 3) L (iV 1 :: st) h) : Pt pc L st h := by
  obtain ⟨p, e, R, s, m, args, below, meth, c, nc, ns, Q, ⟨hx, hb, hml, hown, hts⟩, hK, hR, hret, rfl⟩ := A
  intro ls H locs hl hP hS
  exact va_gets hx hb hK.2.2.2.2.1 hS hown (hts _ hf) (fun _ q => q) hdg (kk ls H locs hl hP hS)
theorem s_getsF (A : Amb g cc own d nL rt Pt En) {idx : Nat} (hf : Cond.fieldLink own idx "jdk/internal/util/Preconditions" "SIOOBE_FORMATTER" "Ljava/util/function/BiFunction;" ∈ GW) (hdg : decode cc pc = .ok (.getstatic idx, 3)) (kk : ∀ v : Value, (v = .null ∨ ∃ a, v = .ref a) → Pt (pc + 3) L (v :: st) h) : Pt pc L st h := by
  obtain ⟨p, e, R, s, m, args, below, meth, c, nc, ns, Q, ⟨hx, hb, hml, hown, hts⟩, hK, hR, hret, rfl⟩ := A
  intro ls H locs hl hP hS
  rcases hK.2.2.2.2.2 with hz | ⟨t, hz⟩
  · exact va_gets hx hb hz hS hown (hts _ hf) (fun _ q => q) hdg (kk _ (Or.inl rfl) ls H locs hl hP hS)
  · exact va_gets hx hb hz hS hown (hts _ hf) (fun _ q => q) hdg (kk _ (Or.inr ⟨t, rfl⟩) ls H locs hl hP hS)
theorem s_getsv (A : Amb g cc own d nL rt Pt En) {idx j : Nat} (hf : Cond.fieldLink own idx "java/lang/String" "value" "[B" ∈ GW) (hj : j < 8) (hdg : decode cc pc = .ok (.getfield idx, 3)) (kk : Pt (pc + 3) L (vV g j :: st) h) : Pt pc L (sV g j :: st) h := by
  obtain ⟨p, e, R, s, m, args, below, meth, c, nc, ns, Q, ⟨hx, hb, hml, hown, hts⟩, hK, hR, hret, rfl⟩ := A
  intro ls H locs hl hP hS
  exact vk_getf hx hb (hK.2.2.1.1 j hj).2.2.1 hS hown (hts _ hf) (fun _ q => q) hdg (kk ls H locs hl hP hS)
theorem s_getsc (A : Amb g cc own d nL rt Pt En) {idx j : Nat} (hf : Cond.fieldLink own idx "java/lang/String" "coder" "B" ∈ GW) (hj : j < 8) (hdg : decode cc pc = .ok (.getfield idx, 3)) (kk : Pt (pc + 3) L (iV 0 :: st) h) : Pt pc L (sV g j :: st) h := by
  obtain ⟨p, e, R, s, m, args, below, meth, c, nc, ns, Q, ⟨hx, hb, hml, hown, hts⟩, hK, hR, hret, rfl⟩ := A
  intro ls H locs hl hP hS
  exact vk_getf hx hb (hK.2.2.1.1 j hj).2.1 hS hown (hts _ hf) (fun _ q => q) hdg (kk ls H locs hl hP hS)
theorem s_slen (A : Amb g cc own d nL rt Pt En) {j : Nat} (hj : j < 8) (hdg : decode cc pc = .ok (.arraylength, 1)) (kk : Pt (pc + 1) L (iV ((sLen.getD j 0 : Nat) : Int) :: st) h) : Pt pc L (vV g j :: st) h := by
  obtain ⟨p, e, R, s, m, args, below, meth, c, nc, ns, Q, ⟨hx, hb, hml, hown, hts⟩, hK, hR, hret, rfl⟩ := A
  intro ls H locs hl hP hS
  obtain ⟨cell, h1, h2, h3, h4, h5, h6, h7⟩ := (hK.2.2.1.1 j hj).2.2.2.kept hS.2.1
  exact W.alen hx hb (n := Int32.ofInt ((sLen.getD j 0 : Nat) : Int)) h1 h2 h5 rfl rfl hdg (kk ls H locs hl hP hS)
theorem s_sbald (A : Amb g cc own d nL rt Pt En) {j : Nat} {i : Int} (hj : j < 8) (hi : 0 ≤ wr i ∧ wr i < ((sLen.getD j 0 : Nat) : Int)) (hdg : decode cc pc = .ok (.baload, 1)) (kk : Pt (pc + 1) L (.int ((sByt.getD j []).getD (wr i).toNat 0) :: st) h) : Pt pc L (iV i :: vV g j :: st) h := by
  obtain ⟨p, e, R, s, m, args, below, meth, c, nc, ns, Q, ⟨hx, hb, hml, hown, hts⟩, hK, hR, hret, rfl⟩ := A
  intro ls H locs hl hP hS
  obtain ⟨cell, h1, h2, h3, h4, h5, h6, h7⟩ := (hK.2.2.1.1 j hj).2.2.2.kept hS.2.1
  have hc := clamp_nat hi.1
  have hlt : (Int32.ofInt i).toNatClampNeg < sLen.getD j 0 := by rw [hc]; omega
  have h8 := h6 _ hlt
  rw [hc] at h8
  refine W.bald hx hb (v := .int ((sByt.getD j []).getD (wr i).toNat 0)) h1 h2 h3 (fun q => ?_) (by rw [hc]; exact h8) rfl rfl hdg (kk ls H locs hl hP hS)
  rcases q with q | q
  · exact nneg hi.1 q
  · omega
theorem s_i2c (A : Amb g cc own d nL rt Pt En) {x v : Int32} (hdg : decode cc pc = .ok (.i2c, 1)) (hv : (x.toUInt32 % 65536).toInt32 = v) (kk : Pt (pc + 1) L (.int v :: st) h) : Pt pc L (.int x :: st) h := by
  obtain ⟨p, e, R, s, m, args, below, meth, c, nc, ns, Q, ⟨hx, hb, hml, hown, hts⟩, hK, hR, hret, rfl⟩ := A
  intro ls H locs hl hP hS
  exact lv_i2c hx hb hdg hv (kk ls H locs hl hP hS)
theorem s_and32 (A : Amb g cc own d nL rt Pt En) {x y : Int32} (hdg : decode cc pc = .ok (.iand, 1)) (kk : Pt (pc + 1) L (.int (x &&& y) :: st) h) : Pt pc L (.int y :: .int x :: st) h := by
  obtain ⟨p, e, R, s, m, args, below, meth, c, nc, ns, Q, ⟨hx, hb, hml, hown, hts⟩, hK, hR, hret, rfl⟩ := A
  intro ls H locs hl hP hS
  exact lv_iand hx hb hdg (kk ls H locs hl hP hS)
theorem s_vaload_n (A : Amb g cc own d nL rt Pt En) {j : Fin 4} {a : Nat} (k : Nat) (hdg : decode cc pc = .ok (.aload_n j, 1)) (hL : L[k]? = some ((j : Nat), vV g a)) (kk : Pt (pc + 1) L (vV g a :: st) h) : Pt pc L st h := s_aload_n A k hdg hL kk
theorem s_callVs (A : Amb g cc own (d + 1) nL rt Pt En) {y : MethodName} {cy : ByteArray} {ny idx j d' : Nat} {ry : Option FieldType} {As rest : List Value} {r : Option Value} {h' : Hp} (hB : CB y cy ny ry As.length) (hV : CV y) (hl0 : Cond.methodLink own idx y ∈ GW) (hj : j < 8) (hy : y.cls = "java/lang/String") (hd : d' ≤ d) (hst : st = As.reverse ++ sV g j :: rest) (hcat : (rest.map fun v => v.category).sum ≤ 8) (hdg : decode cc pc = .ok (.invokevirtual idx, 3))
    (hM : Lm g d' y cy ny ry (sV g j :: As) h r h') (kk : Pt (pc + 3) L (r.toList ++ rest) h') : Pt pc L st h := by
  obtain ⟨p, e, R, s, m, args, below, meth, cd, nc, ns, Q, ⟨hx, hb, hml, hown, hts⟩, hK, hR, hret, rfl⟩ := A
  intro ls H locs hl hP hS
  have hrv := vk_recv hK.2.2.1 hj hS
  rw [← hy] at hrv
  have cb : CallB R s args own idx y cy ny ry (Wd y cy ny ry) (rmd d') 0 0 As.length := callB_of As.length hts (Wd_good hB.2.1) rfl rfl rfl (hts _ hB.1) (hts _ hl0) hB.2.2.1 ⟨by show d' + 1 ≤ _; omega, by have := hB.2.2.2; show 8 + (ny + 11) + 64 * d' ≤ _; omega⟩
  have run := va_runV (e := e) (below := below) (meth := meth) (locs := locs) (cells := nc) (slots := ns) (b := gk g j) (As := As) (rest := rest) (g := F0 m pc ls st) (C := y.cls) ⟨hx, hb, hml, hown, hts⟩ hM ⟨cb, hts _ hV.1, hts _ hV.2⟩ ⟨pc_blind g h _, hrv, fun U hU hW => ⟨rfl, by rw [hU]; exact hP, hK.warm hW (fun a h1 h2 => by rw [hU]; exact hS.2.1 a h1 h2)⟩⟩ rfl rfl hl.1 hst (lv_room hcat) hdg ⟨by omega, by omega⟩
  exact run_W run hS (fun H1 locs1 hP1 hS1 => kk ls H1 locs1 hl hP1 hS1)
end STRX
set_option maxRecDepth 100000 in
theorem L_coder (g : GT) (h : Hp) (j : Nat) (hj : j < 8) : Lm g 0 yJ0_coder_7d493 cJ0_coder_7d493 1 (some .byte) [sV g j] h (some (iV 0)) h := by
  refine Lm.of (by decide) (Nat.le_of_ble_eq_true rfl) (fun Pt En A he => (?_ : Pt 0 [(0, sV g j)] [] h))
  refine s_getsC A fj_J0_38 dJ0_coder_7d493_0 (?_ : Pt 3 _ _ _)
  refine s_if_eq A (tgt := 13) dJ0_coder_7d493_3 (by decide) (fun c => absurd c (by decide)) (fun _ => (?_ : Pt 6 _ _ _))
  refine s_saload_n A 0 dJ0_coder_7d493_6 rfl (?_ : Pt 7 _ _ _)
  refine s_getsc A fj_J0_15 hj dJ0_coder_7d493_7 (?_ : Pt 10 _ _ _)
  refine s_goto A dJ0_coder_7d493_10 (by decide) (?_ : Pt 14 _ _ _)
  exact s_iret A rfl rfl dJ0_coder_7d493_14 he
set_option maxRecDepth 100000 in
theorem L_isLatin1 (g : GT) (h : Hp) (j : Nat) (hj : j < 8) : Lm g 0 yJ0_isLatin1_aae02 cJ0_isLatin1_aae02 1 (some .boolean) [sV g j] h (some (iV 1)) h := by
  refine Lm.of (by decide) (Nat.le_of_ble_eq_true rfl) (fun Pt En A he => (?_ : Pt 0 [(0, sV g j)] [] h))
  refine s_getsC A fj_J0_38 dJ0_isLatin1_aae02_0 (?_ : Pt 3 _ _ _)
  refine s_if_eq A (tgt := 17) dJ0_isLatin1_aae02_3 (by decide) (fun c => absurd c (by decide)) (fun _ => (?_ : Pt 6 _ _ _))
  refine s_saload_n A 0 dJ0_isLatin1_aae02_6 rfl (?_ : Pt 7 _ _ _)
  refine s_getsc A fj_J0_15 hj dJ0_isLatin1_aae02_7 (?_ : Pt 10 _ _ _)
  refine s_if_ne A (tgt := 17) dJ0_isLatin1_aae02_10 (by decide) (fun _ => (?_ : Pt 13 _ _ _)) (fun c => absurd (by decide) c)
  refine s_iconst A dJ0_isLatin1_aae02_13 (?_ : Pt 14 _ _ _)
  refine s_goto A dJ0_isLatin1_aae02_14 (by decide) (?_ : Pt 18 _ _ _)
  exact s_iret A rfl (nz_ok (Or.inr rfl)).1 dJ0_isLatin1_aae02_18 he
theorem sLen_shr : ∀ j, j < 8 → iV (ishr ((sLen.getD j 0 : Nat) : Int) 0) = iV ((sLen.getD j 0 : Nat) : Int) := by
  intro j hj
  show Value.int _ = Value.int _
  rw [(by decide +kernel : ∀ j, j < 8 → Int32.ofInt (ishr ((sLen.getD j 0 : Nat) : Int) 0) = Int32.ofInt ((sLen.getD j 0 : Nat) : Int)) j hj]
set_option maxRecDepth 100000 in
theorem L_length (g : GT) (h : Hp) (j : Nat) (hj : j < 8) : Lm g 1 yJ0_length_8abf5 cJ0_length_8abf5 1 (some .int) [sV g j] h (some (iV ((sLen.getD j 0 : Nat) : Int))) h := by
  refine Lm.of (by decide) (Nat.le_of_ble_eq_true rfl) (fun Pt En A he => (?_ : Pt 0 [(0, sV g j)] [] h))
  refine s_saload_n A 0 dJ0_length_8abf5_0 rfl (?_ : Pt 1 _ _ _)
  refine s_getsv A fj_J0_9 hj dJ0_length_8abf5_1 (?_ : Pt 4 _ _ _)
  refine s_slen A hj dJ0_length_8abf5_4 (?_ : Pt 5 _ _ _)
  refine s_saload_n A 0 dJ0_length_8abf5_5 rfl (?_ : Pt 6 _ _ _)
  refine s_callVs A (As := []) (rest := [iV ((sLen.getD j 0 : Nat) : Int)]) cb_J0_coder_7d493 cv_J0_coder_7d493 lk_J0_335 hj rfl (Nat.le_refl _) rfl (Nat.le_of_ble_eq_true rfl) dJ0_length_8abf5_6 (L_coder g h j hj) (?_ : Pt 9 _ _ _)
  refine s_ishr A dJ0_length_8abf5_9 (?_ : Pt 10 _ _ _)
  rw [sLen_shr j hj]
  exact s_iret A rfl rfl dJ0_length_8abf5_10 he
set_option maxRecDepth 100000 in
theorem L_pcheck (g : GT) (h : Hp) (i n : Int) (v : Value) (hv : v = .null ∨ ∃ a, v = .ref a) (hi : 0 ≤ wr i ∧ wr i < wr n) : Lm g 0 yJ3_checkIndex_8e157 cJ3_checkIndex_8e157 3 (some .int) [iV i, iV n, v] h (some (iV i)) h := by
  rcases hv with rfl | ⟨a, rfl⟩
  all_goals
    refine Lm.of (by decide) (Nat.le_of_ble_eq_true rfl) (fun Pt En A he => (?_ : Pt 0 [(0, iV i), (1, iV n), (2, _)] [] h))
    refine s_iload_n A 0 dJ3_checkIndex_8e157_0 rfl (?_ : Pt 1 _ _ _)
    refine s_if_lt A (tgt := 9) dJ3_checkIndex_8e157_1 (by decide) (fun _ => (?_ : Pt 4 _ _ _)) (fun c => absurd hi.1 c)
    refine s_iload_n A 0 dJ3_checkIndex_8e157_4 rfl (?_ : Pt 5 _ _ _)
    refine s_iload_n A 1 dJ3_checkIndex_8e157_5 rfl (?_ : Pt 6 _ _ _)
    refine s_icmp_lt A dJ3_checkIndex_8e157_6 (by decide) (fun c => absurd c (by omega)) (fun _ => (?_ : Pt 16 _ _ _))
    refine s_iload_n A 0 dJ3_checkIndex_8e157_16 rfl (?_ : Pt 17 _ _ _)
    exact s_iret A rfl rfl dJ3_checkIndex_8e157_17 he
set_option maxRecDepth 100000 in
theorem L_scheck (g : GT) (h : Hp) (i n : Int) (hi : 0 ≤ wr i ∧ wr i < wr n) : Lm g 1 yJ0_checkIndex_df160 cJ0_checkIndex_df160 2 none [iV i, iV n] h none h := by
  refine Lm.of (by decide) (Nat.le_of_ble_eq_true rfl) (fun Pt En A he => (?_ : Pt 0 [(0, iV i), (1, iV n)] [] h))
  refine s_iload_n A 0 dJ0_checkIndex_df160_0 rfl (?_ : Pt 1 _ _ _)
  refine s_iload_n A 1 dJ0_checkIndex_df160_1 rfl (?_ : Pt 2 _ _ _)
  refine s_getsF A fj_J0_1053 dJ0_checkIndex_df160_2 (fun v hv => (?_ : Pt 5 _ _ _))
  refine s_callS A (As := [iV i, iV n, v]) (rest := []) cb_J3_checkIndex_8e157 cs_J3_checkIndex_8e157 lk_J0_1059 (Nat.le_refl _) rfl (Nat.le_of_ble_eq_true rfl) dJ0_checkIndex_df160_5 (L_pcheck g h i n v hv hi) (?_ : Pt 8 _ _ _)
  refine s_pop A dJ0_checkIndex_df160_8 rfl (?_ : Pt 9 _ _ _)
  exact s_vret A rfl dJ0_checkIndex_df160_9 he
theorem sB_fix : ∀ j, j < 8 → ∀ k, k < sLen.getD j 0 → (((((sByt.getD j []).getD k 0) &&& (255 : Int32)).toUInt32 % 65536).toInt32 = (sByt.getD j []).getD k 0) ∧ narrow .char (.int ((sByt.getD j []).getD k 0)) = .int ((sByt.getD j []).getD k 0) := by decide +kernel
set_option maxRecDepth 100000 in
theorem L_l1charAt (g : GT) (h : Hp) (j : Nat) (hj : j < 8) (i : Int) (hi : 0 ≤ wr i ∧ wr i < ((sLen.getD j 0 : Nat) : Int)) : Lm g 2 yJ1_charAt_3b067 cJ1_charAt_3b067 2 (some .char) [vV g j, iV i] h (some (.int ((sByt.getD j []).getD (wr i).toNat 0))) h := by
  have hw : wr ((sLen.getD j 0 : Nat) : Int) = ((sLen.getD j 0 : Nat) : Int) := by
    have := (by decide +kernel : ∀ j, j < 8 → sLen.getD j 0 ≤ 10) j hj
    exact wr_id (by omega)
  have hfx := sB_fix j hj (wr i).toNat (by omega)
  refine Lm.of (by decide) (Nat.le_of_ble_eq_true rfl) (fun Pt En A he => (?_ : Pt 0 [(0, vV g j), (1, iV i)] [] h))
  refine s_iload_n A 1 dJ1_charAt_3b067_0 rfl (?_ : Pt 1 _ _ _)
  refine s_vaload_n A 0 dJ1_charAt_3b067_1 rfl (?_ : Pt 2 _ _ _)
  refine s_slen A hj dJ1_charAt_3b067_2 (?_ : Pt 3 _ _ _)
  refine s_callS A (As := [iV i, iV ((sLen.getD j 0 : Nat) : Int)]) (rest := []) cb_J0_checkIndex_df160 cs_J0_checkIndex_df160 lk_J1_9 (Nat.le_refl _) rfl (Nat.le_of_ble_eq_true rfl) dJ1_charAt_3b067_3 (L_scheck g h i _ (by rw [hw]; exact hi)) (?_ : Pt 6 _ _ _)
  refine s_vaload_n A 0 dJ1_charAt_3b067_6 rfl (?_ : Pt 7 _ _ _)
  refine s_iload_n A 1 dJ1_charAt_3b067_7 rfl (?_ : Pt 8 _ _ _)
  refine s_sbald A hj hi dJ1_charAt_3b067_8 (?_ : Pt 9 _ _ _)
  refine s_sipush A dJ1_charAt_3b067_9 (by decide) (?_ : Pt 12 _ _ _)
  refine s_and32 A dJ1_charAt_3b067_12 (?_ : Pt 13 _ _ _)
  refine s_i2c A dJ1_charAt_3b067_13 hfx.1 (?_ : Pt 14 _ _ _)
  have he2 : En (some (iV ((sByt.getD j []).getD (wr i).toNat 0).toInt)) h := by rw [iV_toInt]; exact he
  have hn2 : narrow .char (iV ((sByt.getD j []).getD (wr i).toNat 0).toInt) = iV ((sByt.getD j []).getD (wr i).toNat 0).toInt := by rw [iV_toInt]; exact hfx.2
  have := s_iret (L := [(0, vV g j), (1, iV i)]) A rfl hn2 dJ1_charAt_3b067_14 he2
  rw [iV_toInt] at this
  exact this
set_option maxRecDepth 100000 in
theorem L_charAt (g : GT) (h : Hp) (j : Nat) (hj : j < 8) (i : Int) (hi : 0 ≤ wr i ∧ wr i < ((sLen.getD j 0 : Nat) : Int)) : Lm g 3 yJ0_charAt_5068e cJ0_charAt_5068e 2 (some .char) [sV g j, iV i] h (some (iV ((sByt.getD j []).getD (wr i).toNat 0).toInt)) h := by
  have hfx := sB_fix j hj (wr i).toNat (by omega)
  refine Lm.of (by decide) (Nat.le_of_ble_eq_true rfl) (fun Pt En A he => (?_ : Pt 0 [(0, sV g j), (1, iV i)] [] h))
  refine s_saload_n A 0 dJ0_charAt_5068e_0 rfl (?_ : Pt 1 _ _ _)
  refine s_callVs A (As := []) (rest := []) cb_J0_isLatin1_aae02 cv_J0_isLatin1_aae02 lk_J0_492 hj rfl (by decide) rfl (Nat.le_of_ble_eq_true rfl) dJ0_charAt_5068e_1 (L_isLatin1 g h j hj) (?_ : Pt 4 _ _ _)
  refine s_if_eq A (a := 1) (tgt := 16) dJ0_charAt_5068e_4 (by decide) (fun c => absurd c (by decide)) (fun _ => (?_ : Pt 7 _ _ _))
  refine s_saload_n A 0 dJ0_charAt_5068e_7 rfl (?_ : Pt 8 _ _ _)
  refine s_getsv A fj_J0_9 hj dJ0_charAt_5068e_8 (?_ : Pt 11 _ _ _)
  refine s_iload_n A 1 dJ0_charAt_5068e_11 rfl (?_ : Pt 12 _ _ _)
  refine s_callS A (As := [vV g j, iV i]) (rest := []) cb_J1_charAt_3b067 cs_J1_charAt_3b067 lk_J0_495 (Nat.le_refl _) rfl (Nat.le_of_ble_eq_true rfl) dJ0_charAt_5068e_12 (L_l1charAt g h j hj i hi) (?_ : Pt 15 _ _ _)
  have hn2 : narrow .char (iV ((sByt.getD j []).getD (wr i).toNat 0).toInt) = iV ((sByt.getD j []).getD (wr i).toNat 0).toInt := by rw [iV_toInt]; exact hfx.2
  have := s_iret (L := [(0, sV g j), (1, iV i)]) A rfl hn2 dJ0_charAt_5068e_15 he
  rw [iV_toInt] at this
  exact this
section STRY
variable {g : GT} {cc : ByteArray} {own : String} {d nL : Nat} {rt : Option FieldType} {Pt : Nat → List (Nat × Value) → List Value → Hp → Prop} {En : Option Value → Hp → Prop} {pc : Nat} {L : List (Nat × Value)} {st : List Value} {h : Hp}
theorem s_call_length (A : Amb g cc own (d + 6) nL rt Pt En) {idx j : Nat} {r : Int} (hl0 : Cond.methodLink own idx yJ0_length_8abf5 ∈ GW) (hj : j < 8) (hcat : (st.map fun v => v.category).sum ≤ 8) (hdg : decode cc pc = .ok (.invokevirtual idx, 3)) (hr : jd_length j = some r) (kk : Pt (pc + 3) L (iV r :: st) h) : Pt pc L (sV g j :: st) h := by
  cases hr
  exact s_callVs (d := d + 5) A (As := []) (rest := st) cb_J0_length_8abf5 cv_J0_length_8abf5 hl0 hj rfl (by omega) rfl hcat hdg (L_length g h j hj) kk
theorem s_call_charAt (A : Amb g cc own (d + 6) nL rt Pt En) {idx j : Nat} {i r : Int} (hl0 : Cond.methodLink own idx yJ0_charAt_5068e ∈ GW) (hj : j < 8) (hcat : (st.map fun v => v.category).sum ≤ 8) (hdg : decode cc pc = .ok (.invokevirtual idx, 3)) (hr : jd_charAt j i = some r) (kk : Pt (pc + 3) L (iV r :: st) h) : Pt pc L (iV i :: sV g j :: st) h := by
  unfold jd_charAt chk at hr
  split at hr
  · rename_i hi
    cases hr
    exact s_callVs (d := d + 5) A (As := [iV i]) (rest := st) cb_J0_charAt_5068e cv_J0_charAt_5068e hl0 hj rfl (by omega) rfl hcat hdg (L_charAt g h j hj i hi) kk
  · cases hr
end STRY
