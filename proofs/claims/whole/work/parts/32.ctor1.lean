/-- the heap as it begins -/
def h0 : Hp := fun k i => if k = 1 ∧ i = 1 then -1 else if k = 0 ∧ (i = 11 ∨ i = 12) then 1 else if k = 167 ∧ i = 15 then -1 else if k = 168 ∧ 0 ≤ i ∧ i < 4 then -1 else 0
theorem h0_z {k : Nat} (h : k ≠ 1 ∧ k ≠ 0 ∧ k ≠ 167 ∧ k ≠ 168) : h0 k = fun _ => 0 := by
  funext i
  obtain ⟨a, b, c, d⟩ := h
  simp [h0, a, b, c, d]
/-- the cells while the object m of class ci is made -/
def cN (g : GT) (c : CF) (m ci : Nat) (fs : List Value) : CF := fun k => if k < m then c k else if k = m then .inr (ci, fs) else cellE g k (h0 k)
def fin0 (g : GT) (c : CF) (m : Nat) : CF := fun k => if k < m then c k else cellE g k (h0 k)
theorem cN_m (g : GT) (c : CF) (m ci : Nat) (fs : List Value) : cN g c m ci fs m = .inr (ci, fs) := by simp [cN]
theorem cN_set (g : GT) (c : CF) (m ci : Nat) (fs fs' : List Value) : cset (cN g c m ci fs) m (.inr (ci, fs')) = cN g c m ci fs' := by
  funext k
  simp only [cset, cN]
  by_cases h1 : k = m
  · simp [h1]
  · simp [h1]
theorem cN_fin {g : GT} {c : CF} {m ci : Nat} {fs : List Value} (h : cellE g m (h0 m) = .inr (ci, fs)) (k : Nat) : cN g c m ci fs k = fin0 g c m k := by
  simp only [cN, fin0]
  by_cases h1 : k < m
  · simp [h1]
  · by_cases h2 : k = m
    · subst h2; simp [h]
    · simp [h1, h2]
section CT1
variable {ini : Bool} {g : GT} {cc : ByteArray} {own : String} {d nL m t : Nat} {Pt : Nat → List (Nat × Value) → List Value → Nat → CF → Prop} {En : CF → Prop} {pc : Nat} {L : List (Nat × Value)} {st : List Value} {n : Nat} {c : CF} {ci : Nat} {fs : List Value}
theorem k_put (A : AmbC ini g cc own d nL (m + 1) t Pt En) {j idx : Nat} {z : Int} {fs' : List Value} (hf : FL own idx ci j) (hp : FP ci j .int) (hl0 : j < fs.length) (hs : fs.set j (iV z) = fs') (hdg : decode cc pc = .ok (.putfield idx, 3)) (kk : Pt (pc + 3) L st n (cN g c m ci fs')) : Pt pc L (iV z :: rV g m :: st) n (cN g c m ci fs) := by
  refine c_putn A (by omega) (cN_m g c m ci fs) hf hp rfl rfl hl0 hdg ?_
  rw [cN_set, hs]
  exact kk
theorem k_putz (A : AmbC ini g cc own d nL (m + 1) t Pt En) {j idx : Nat} {z : Int} {fs' : List Value} (h01 : z = 0 ∨ z = 1) (hf : FL own idx ci j) (hp : FP ci j .boolean) (hl0 : j < fs.length) (hs : fs.set j (iV z) = fs') (hdg : decode cc pc = .ok (.putfield idx, 3)) (kk : Pt (pc + 3) L st n (cN g c m ci fs')) : Pt pc L (iV z :: rV g m :: st) n (cN g c m ci fs) := by
  refine c_putn A (by omega) (cN_m g c m ci fs) hf hp (nz_ok h01).1 (nz_ok h01).2 hl0 hdg ?_
  rw [cN_set, hs]
  exact kk
theorem k_putr (A : AmbC true g cc own d nL (m + 1) t Pt En) {j idx a : Nat} {ty : FieldType} {fs' : List Value} (hf : FL own idx ci j) (hp : FQ own ci j ty) (hfin : ∀ C T N, vwCl[ci]? = some (C, T, N) → (T j).2.2.2 = true) (hnr : narrow ty (rV g a) = rV g a) (hft : fits ty (rV g a) = true) (hl0 : j < fs.length) (hs : fs.set j (rV g a) = fs') (hdg : decode cc pc = .ok (.putfield idx, 3)) (kk : Pt (pc + 3) L st n (cN g c m ci fs')) : Pt pc L (rV g a :: rV g m :: st) n (cN g c m ci fs) := by
  refine c_putF A (by omega) (cN_m g c m ci fs) hf hp hfin hnr hft hl0 hdg ?_
  rw [cN_set, hs]
  exact kk
theorem cN_new {e : va_E} {a : Nat} (ha : m < a) (he : cellE g a (h0 a) = e) (k : Nat) : cset (cN g c m ci fs) a e k = cN g c m ci fs k := by
  simp only [cset, cN]
  by_cases h1 : k = a
  · subst h1
    have h2 : ¬ k < m := by omega
    have h3 : ¬ k = m := by omega
    simp [h2, h3, he]
  · simp [h1]
theorem k_newi (A : AmbC ini g cc own d nL (m + 1) t Pt En) {N : Nat} {z : Int} (hsh : sh (m + 1 + n) = (0, N)) (hz : h0 (m + 1 + n) = fun _ => 0) (hzz : wr z = N) (hN : N ≤ 1000) (hn : n + 1 ≤ t) (hdg : decode cc pc = .ok (.newarray .int, 2)) (kk : Pt (pc + 2) L (rV g (m + 1 + n) :: st) (n + 1) (cN g c m ci fs)) : Pt pc L (iV z :: st) n (cN g c m ci fs) := by
  refine c_newa A 0 (a0 := (N, .inl (fun _ => Int32.ofInt 0))) ac_int rfl rfl (fun C h => by cases h) (fun cA => rfl) hzz hN (by decide) hn hdg ?_
  exact c_cong A (fun k _ => cN_new (by omega) (by rw [cE_i hsh, hz]) k) kk
theorem k_newl (A : AmbC ini g cc own d nL (m + 1) t Pt En) {N : Nat} {z : Int} (hsh : sh (m + 1 + n) = (1, N)) (hz : h0 (m + 1 + n) = fun _ => 0) (hzz : wr z = N) (hN : N ≤ 1000) (hn : n + 1 ≤ t) (hdg : decode cc pc = .ok (.newarray .long, 2)) (kk : Pt (pc + 2) L (rV g (m + 1 + n) :: st) (n + 1) (cN g c m ci fs)) : Pt pc L (iV z :: st) n (cN g c m ci fs) := by
  refine c_newa A 1 (a0 := (N, .inr (.inl (fun _ => Int64.ofInt 0)))) ac_long rfl rfl (fun C h => by cases h) (fun cA => rfl) hzz hN (by decide) hn hdg ?_
  exact c_cong A (fun k _ => cN_new (by omega) (by rw [cE_l hsh, hz]) k) kk
theorem k_newb (A : AmbC ini g cc own d nL (m + 1) t Pt En) {N : Nat} {z : Int} (hsh : sh (m + 1 + n) = (2, N)) (hz : h0 (m + 1 + n) = fun _ => 0) (hzz : wr z = N) (hN : N ≤ 1000) (hn : n + 1 ≤ t) (hdg : decode cc pc = .ok (.newarray .byte, 2)) (kk : Pt (pc + 2) L (rV g (m + 1 + n) :: st) (n + 1) (cN g c m ci fs)) : Pt pc L (iV z :: st) n (cN g c m ci fs) := by
  refine c_newa A 2 (a0 := (N, .inl (fun _ => Int32.ofInt 0))) ac_byte rfl rfl (fun C h => by cases h) (fun cA => rfl) hzz hN (by decide) hn hdg ?_
  exact c_cong A (fun k _ => cN_new (by omega) (by rw [cE_b hsh, hz]) k) kk
theorem k_newz (A : AmbC ini g cc own d nL (m + 1) t Pt En) {N : Nat} {z : Int} (hsh : sh (m + 1 + n) = (3, N)) (hz : h0 (m + 1 + n) = fun _ => 0) (hzz : wr z = N) (hN : N ≤ 1000) (hn : n + 1 ≤ t) (hdg : decode cc pc = .ok (.newarray .boolean, 2)) (kk : Pt (pc + 2) L (rV g (m + 1 + n) :: st) (n + 1) (cN g c m ci fs)) : Pt pc L (iV z :: st) n (cN g c m ci fs) := by
  refine c_newa A 3 (a0 := (N, .inl (fun _ => Int32.ofInt 0))) ac_boolean rfl rfl (fun C h => by cases h) (fun cA => rfl) hzz hN (by decide) hn hdg ?_
  exact c_cong A (fun k _ => cN_new (by omega) (by rw [cE_z hsh, hz]) k) kk
end CT1
theorem fq_0_7 : FQ RX0 0 7 (.array .int) := ⟨_, _, tyX0, rfl, tyX0_ok, nmX0, by decide +kernel, rfl⟩
theorem fq_0_9 : FQ RX0 0 9 (.array .int) := ⟨_, _, tyX0, rfl, tyX0_ok, nmX0, by decide +kernel, rfl⟩
theorem fq_0_10 : FQ RX0 0 10 (.array .int) := ⟨_, _, tyX0, rfl, tyX0_ok, nmX0, by decide +kernel, rfl⟩
theorem fq_0_11 : FQ RX0 0 11 (.array .int) := ⟨_, _, tyX0, rfl, tyX0_ok, nmX0, by decide +kernel, rfl⟩
theorem fq_0_12 : FQ RX0 0 12 (.array .int) := ⟨_, _, tyX0, rfl, tyX0_ok, nmX0, by decide +kernel, rfl⟩
theorem fq_1_4 : FQ RX1 1 4 (.array .int) := ⟨_, _, tyX1, rfl, tyX1_ok, nmX1, by decide +kernel, rfl⟩
theorem fq_1_5 : FQ RX1 1 5 (.array .int) := ⟨_, _, tyX1, rfl, tyX1_ok, nmX1, by decide +kernel, rfl⟩
theorem fq_1_6 : FQ RX1 1 6 (.array .int) := ⟨_, _, tyX1, rfl, tyX1_ok, nmX1, by decide +kernel, rfl⟩
theorem fq_1_7 : FQ RX1 1 7 (.array .int) := ⟨_, _, tyX1, rfl, tyX1_ok, nmX1, by decide +kernel, rfl⟩
theorem fq_2_3 : FQ RX2 2 3 (.array .byte) := ⟨_, _, tyX2, rfl, tyX2_ok, nmX2, by decide +kernel, rfl⟩
theorem fq_3_3 : FQ RX3 3 3 (.array .int) := ⟨_, _, tyX3, rfl, tyX3_ok, nmX3, by decide +kernel, rfl⟩
theorem fq_3_4 : FQ RX3 3 4 (.array .int) := ⟨_, _, tyX3, rfl, tyX3_ok, nmX3, by decide +kernel, rfl⟩
theorem fq_3_5 : FQ RX3 3 5 (.array .int) := ⟨_, _, tyX3, rfl, tyX3_ok, nmX3, by decide +kernel, rfl⟩
theorem fq_3_6 : FQ RX3 3 6 (.array .int) := ⟨_, _, tyX3, rfl, tyX3_ok, nmX3, by decide +kernel, rfl⟩
theorem fq_3_7 : FQ RX3 3 7 (.array .int) := ⟨_, _, tyX3, rfl, tyX3_ok, nmX3, by decide +kernel, rfl⟩
theorem fq_3_8 : FQ RX3 3 8 (.array .int) := ⟨_, _, tyX3, rfl, tyX3_ok, nmX3, by decide +kernel, rfl⟩
theorem fq_3_9 : FQ RX3 3 9 (.array .int) := ⟨_, _, tyX3, rfl, tyX3_ok, nmX3, by decide +kernel, rfl⟩
theorem fq_4_3 : FQ RX4 4 3 (.array .long) := ⟨_, _, tyX4, rfl, tyX4_ok, nmX4, by decide +kernel, rfl⟩
theorem fq_5_1 : FQ RX5 5 1 (.array .int) := ⟨_, _, tyX5, rfl, tyX5_ok, nmX5, by decide +kernel, rfl⟩
theorem fq_5_2 : FQ RX5 5 2 (.array .boolean) := ⟨_, _, tyX5, rfl, tyX5_ok, nmX5, by decide +kernel, rfl⟩
theorem fq_5_3 : FQ RX5 5 3 (.array .int) := ⟨_, _, tyX5, rfl, tyX5_ok, nmX5, by decide +kernel, rfl⟩
theorem fq_7_0 : FQ RX7 7 0 (.object "SpiteField$Reader") := ⟨_, _, tyX7, rfl, tyX7_ok, nmX7, by decide +kernel, rfl⟩
theorem fq_7_1 : FQ RX7 7 1 (.object "SpiteField$Land") := ⟨_, _, tyX7, rfl, tyX7_ok, nmX7, by decide +kernel, rfl⟩
theorem fq_7_2 : FQ RX7 7 2 (.object "SpiteField$Land") := ⟨_, _, tyX7, rfl, tyX7_ok, nmX7, by decide +kernel, rfl⟩
theorem fq_7_3 : FQ RX7 7 3 (.array (.object "SpiteField$Land")) := ⟨_, _, tyX7, rfl, tyX7_ok, nmX7, by decide +kernel, rfl⟩
theorem fq_7_4 : FQ RX7 7 4 (.array .boolean) := ⟨_, _, tyX7, rfl, tyX7_ok, nmX7, by decide +kernel, rfl⟩
theorem fq_7_5 : FQ RX7 7 5 (.array (.object "SpiteField$Slot")) := ⟨_, _, tyX7, rfl, tyX7_ok, nmX7, by decide +kernel, rfl⟩
theorem fq_7_6 : FQ RX7 7 6 (.array (.object "SpiteField$Season")) := ⟨_, _, tyX7, rfl, tyX7_ok, nmX7, by decide +kernel, rfl⟩
theorem fq_7_7 : FQ RX7 7 7 (.object "SpiteField$Season") := ⟨_, _, tyX7, rfl, tyX7_ok, nmX7, by decide +kernel, rfl⟩
theorem fq_7_8 : FQ RX7 7 8 (.object "SpiteField$Orders") := ⟨_, _, tyX7, rfl, tyX7_ok, nmX7, by decide +kernel, rfl⟩
theorem fq_7_9 : FQ RX7 7 9 (.object "SpiteField$Spoons") := ⟨_, _, tyX7, rfl, tyX7_ok, nmX7, by decide +kernel, rfl⟩
theorem fq_7_10 : FQ RX7 7 10 (.object "SpiteField$Springs") := ⟨_, _, tyX7, rfl, tyX7_ok, nmX7, by decide +kernel, rfl⟩
theorem fq_8_1 : FQ RX8 8 1 (.array .int) := ⟨_, _, tyX8, rfl, tyX8_ok, nmX8, by decide +kernel, rfl⟩
theorem fq_8_2 : FQ RX8 8 2 (.array .int) := ⟨_, _, tyX8, rfl, tyX8_ok, nmX8, by decide +kernel, rfl⟩
theorem fq_8_3 : FQ RX8 8 3 (.array .long) := ⟨_, _, tyX8, rfl, tyX8_ok, nmX8, by decide +kernel, rfl⟩
theorem fq_8_4 : FQ RX8 8 4 (.array .long) := ⟨_, _, tyX8, rfl, tyX8_ok, nmX8, by decide +kernel, rfl⟩
theorem fq_8_5 : FQ RX8 8 5 (.array .byte) := ⟨_, _, tyX8, rfl, tyX8_ok, nmX8, by decide +kernel, rfl⟩
theorem fq_8_16 : FQ RX8 8 16 (.array .int) := ⟨_, _, tyX8, rfl, tyX8_ok, nmX8, by decide +kernel, rfl⟩
theorem fq_8_17 : FQ RX8 8 17 (.array .int) := ⟨_, _, tyX8, rfl, tyX8_ok, nmX8, by decide +kernel, rfl⟩
theorem fq_8_18 : FQ RX8 8 18 (.array .int) := ⟨_, _, tyX8, rfl, tyX8_ok, nmX8, by decide +kernel, rfl⟩
theorem fq_8_19 : FQ RX8 8 19 (.array .int) := ⟨_, _, tyX8, rfl, tyX8_ok, nmX8, by decide +kernel, rfl⟩
theorem fq_8_20 : FQ RX8 8 20 (.array .boolean) := ⟨_, _, tyX8, rfl, tyX8_ok, nmX8, by decide +kernel, rfl⟩
theorem fq_8_21 : FQ RX8 8 21 (.array .int) := ⟨_, _, tyX8, rfl, tyX8_ok, nmX8, by decide +kernel, rfl⟩
theorem fq_8_22 : FQ RX8 8 22 (.array .int) := ⟨_, _, tyX8, rfl, tyX8_ok, nmX8, by decide +kernel, rfl⟩
theorem fq_8_23 : FQ RX8 8 23 (.array .int) := ⟨_, _, tyX8, rfl, tyX8_ok, nmX8, by decide +kernel, rfl⟩
theorem fq_8_24 : FQ RX8 8 24 (.array .int) := ⟨_, _, tyX8, rfl, tyX8_ok, nmX8, by decide +kernel, rfl⟩
theorem fq_8_25 : FQ RX8 8 25 (.array .int) := ⟨_, _, tyX8, rfl, tyX8_ok, nmX8, by decide +kernel, rfl⟩
theorem fq_8_27 : FQ RX8 8 27 (.array .int) := ⟨_, _, tyX8, rfl, tyX8_ok, nmX8, by decide +kernel, rfl⟩
theorem fq_8_32 : FQ RX8 8 32 (.array .int) := ⟨_, _, tyX8, rfl, tyX8_ok, nmX8, by decide +kernel, rfl⟩
theorem fq_8_39 : FQ RX8 8 39 (.array .int) := ⟨_, _, tyX8, rfl, tyX8_ok, nmX8, by decide +kernel, rfl⟩
def df0 : List Value := [.int 0, .int 0, .int 0, .int 0, .int 0, .int 0, .int 0, .null, .int 0, .null, .null, .null, .null]
def df1 : List Value := [.int 0, .int 0, .int 0, .int 0, .null, .null, .null, .null, .int 0, .int 0, .int 0, .int 0]
def df2 : List Value := [.int 0, .int 0, .int 0, .null, .int 0, .int 0, .int 0, .int 0, .int 0]
def df3 : List Value := [.int 0, .int 0, .int 0, .null, .null, .null, .null, .null, .null, .null]
def df4 : List Value := [.int 0, .int 0, .int 0, .null]
def df5 : List Value := [.int 0, .null, .null, .null, .int 0, .int 0, .int 0]
def df6 : List Value := []
def df7 : List Value := [.null, .null, .null, .null, .null, .null, .null, .null, .null, .null, .null, .int 0, .int 0]
def df8 : List Value := [.int 0, .null, .null, .null, .null, .null, .int 0, .int 0, .int 0, .int 0, .int 0, .long 0, .int 0, .int 0, .int 0, .int 0, .null, .null, .null, .null, .null, .null, .null, .null, .null, .null, .int 0, .null, .int 0, .int 0, .int 0, .int 0, .null, .int 0, .int 0, .int 0, .int 0, .int 0, .int 0, .null]
set_option maxRecDepth 100000 in
set_option maxHeartbeats 4000000 in
theorem L_ini0 (g : GT) (m : Nat) (c : CF) (hm : sh m = (10, 13)) (hc : c m = .inr (0, df0)) : LmC g 1 5 yX0_init cX0_init 1 [rV g m] (m + 1) c (fin0 g c m) := by
  have hne : m ≠ 1 ∧ m ≠ 0 ∧ m ≠ 167 ∧ m ≠ 168 := ⟨fun q => by subst q; exact absurd hm (by decide), fun q => by subst q; exact absurd hm (by decide), fun q => by subst q; exact absurd hm (by decide), fun q => by subst q; exact absurd hm (by decide)⟩
  have hs0 : sh (m + 1 + 0) = (0, 30) := by exact shAll 10 13 1 0 30 (by decide +kernel) (by decide) hm
  have hz0 : h0 (m + 1 + 0) = fun _ => 0 := h0_z ⟨fun q => by rw [q] at hs0; exact absurd hs0 (by decide), fun q => by omega, fun q => by rw [q] at hs0; exact absurd hs0 (by decide), fun q => by rw [q] at hs0; exact absurd hs0 (by decide)⟩
  have hs1 : sh (m + 1 + 1) = (0, 40) := by exact shAll 10 13 2 0 40 (by decide +kernel) (by decide) hm
  have hz1 : h0 (m + 1 + 1) = fun _ => 0 := h0_z ⟨fun q => by rw [q] at hs1; exact absurd hs1 (by decide), fun q => by omega, fun q => by rw [q] at hs1; exact absurd hs1 (by decide), fun q => by rw [q] at hs1; exact absurd hs1 (by decide)⟩
  have hs2 : sh (m + 1 + 2) = (0, 40) := by exact shAll 10 13 3 0 40 (by decide +kernel) (by decide) hm
  have hz2 : h0 (m + 1 + 2) = fun _ => 0 := h0_z ⟨fun q => by rw [q] at hs2; exact absurd hs2 (by decide), fun q => by omega, fun q => by rw [q] at hs2; exact absurd hs2 (by decide), fun q => by rw [q] at hs2; exact absurd hs2 (by decide)⟩
  have hs3 : sh (m + 1 + 3) = (0, 40) := by exact shAll 10 13 4 0 40 (by decide +kernel) (by decide) hm
  have hz3 : h0 (m + 1 + 3) = fun _ => 0 := h0_z ⟨fun q => by rw [q] at hs3; exact absurd hs3 (by decide), fun q => by omega, fun q => by rw [q] at hs3; exact absurd hs3 (by decide), fun q => by rw [q] at hs3; exact absurd hs3 (by decide)⟩
  have hs4 : sh (m + 1 + 4) = (0, 40) := by exact shAll 10 13 5 0 40 (by decide +kernel) (by decide) hm
  have hz4 : h0 (m + 1 + 4) = fun _ => 0 := h0_z ⟨fun q => by rw [q] at hs4; exact absurd hs4 (by decide), fun q => by omega, fun q => by rw [q] at hs4; exact absurd hs4 (by decide), fun q => by rw [q] at hs4; exact absurd hs4 (by decide)⟩
  refine LmC.of (by decide) rfl (Nat.le_of_ble_eq_true rfl) (fun Pt En A he => ?_)
  refine (?_ : Pt 0 [(0, rV g m)] [] 0 c)
  refine c_cong A (c' := cN g c m 0 df0) (fun k hk => ?_) ?_
  · have : k ≤ m := by omega
    by_cases h1 : k = m
    · subst h1; rw [cN_m]; exact hc
    · simp [cN, show k < m by omega]
  refine c_aload A 0 dX0_init_0 rfl (?_ : Pt 1 _ _ _ _)
  refine c_obj A objW lo_X0 (Nat.le_of_ble_eq_true rfl) dX0_init_1 (?_ : Pt 4 _ _ _ _)
  refine c_aload A 0 dX0_init_4 rfl (?_ : Pt 5 _ _ _ _)
  refine c_iconst A dX0_init_5 (?_ : Pt 6 _ _ _ _)
  refine k_putz A (j := 0) (Or.inl rfl) fl_X0_9 fp_0_0 (Nat.le_of_ble_eq_true rfl) (fs' := [iV (0), .int 0, .int 0, .int 0, .int 0, .int 0, .int 0, .null, .int 0, .null, .null, .null, .null]) rfl dX0_init_6 (?_ : Pt 9 _ _ _ _)
  refine c_aload A 0 dX0_init_9 rfl (?_ : Pt 10 _ _ _ _)
  refine c_iconst A dX0_init_10 (?_ : Pt 11 _ _ _ _)
  refine k_put A (j := 1) fl_X0_15 fp_0_1 (Nat.le_of_ble_eq_true rfl) (fs' := [iV (0), iV (0), .int 0, .int 0, .int 0, .int 0, .int 0, .null, .int 0, .null, .null, .null, .null]) rfl dX0_init_11 (?_ : Pt 14 _ _ _ _)
  refine c_aload A 0 dX0_init_14 rfl (?_ : Pt 15 _ _ _ _)
  refine c_iconst A dX0_init_15 (?_ : Pt 16 _ _ _ _)
  refine k_put A (j := 2) fl_X0_19 fp_0_2 (Nat.le_of_ble_eq_true rfl) (fs' := [iV (0), iV (0), iV (0), .int 0, .int 0, .int 0, .int 0, .null, .int 0, .null, .null, .null, .null]) rfl dX0_init_16 (?_ : Pt 19 _ _ _ _)
  refine c_aload A 0 dX0_init_19 rfl (?_ : Pt 20 _ _ _ _)
  refine c_iconst A dX0_init_20 (?_ : Pt 21 _ _ _ _)
  refine k_put A (j := 3) fl_X0_22 fp_0_3 (Nat.le_of_ble_eq_true rfl) (fs' := [iV (0), iV (0), iV (0), iV (0), .int 0, .int 0, .int 0, .null, .int 0, .null, .null, .null, .null]) rfl dX0_init_21 (?_ : Pt 24 _ _ _ _)
  refine c_aload A 0 dX0_init_24 rfl (?_ : Pt 25 _ _ _ _)
  refine c_iconst A dX0_init_25 (?_ : Pt 26 _ _ _ _)
  refine k_put A (j := 4) fl_X0_25 fp_0_4 (Nat.le_of_ble_eq_true rfl) (fs' := [iV (0), iV (0), iV (0), iV (0), iV (0), .int 0, .int 0, .null, .int 0, .null, .null, .null, .null]) rfl dX0_init_26 (?_ : Pt 29 _ _ _ _)
  refine c_aload A 0 dX0_init_29 rfl (?_ : Pt 30 _ _ _ _)
  refine c_iconst A dX0_init_30 (?_ : Pt 31 _ _ _ _)
  refine k_put A (j := 5) fl_X0_28 fp_0_5 (Nat.le_of_ble_eq_true rfl) (fs' := [iV (0), iV (0), iV (0), iV (0), iV (0), iV (0), .int 0, .null, .int 0, .null, .null, .null, .null]) rfl dX0_init_31 (?_ : Pt 34 _ _ _ _)
  refine c_aload A 0 dX0_init_34 rfl (?_ : Pt 35 _ _ _ _)
  refine c_iconst A dX0_init_35 (?_ : Pt 36 _ _ _ _)
  refine k_put A (j := 6) fl_X0_31 fp_0_6 (Nat.le_of_ble_eq_true rfl) (fs' := [iV (0), iV (0), iV (0), iV (0), iV (0), iV (0), iV (0), .null, .int 0, .null, .null, .null, .null]) rfl dX0_init_36 (?_ : Pt 39 _ _ _ _)
  refine c_aload A 0 dX0_init_39 rfl (?_ : Pt 40 _ _ _ _)
  refine c_bipush A dX0_init_40 (by decide) (?_ : Pt 42 _ _ _ _)
  refine k_newi A hs0 hz0 (wr_id (by decide)) (by decide) (by decide) dX0_init_42 (?_ : Pt 44 _ _ _ _)
  refine k_putr A (j := 7) fl_X0_34 fq_0_7 (fun C T N h => by cases h; rfl) rfl rfl (Nat.le_of_ble_eq_true rfl) (fs' := [iV (0), iV (0), iV (0), iV (0), iV (0), iV (0), iV (0), rV g (m + 1 + 0), .int 0, .null, .null, .null, .null]) rfl dX0_init_44 (?_ : Pt 47 _ _ _ _)
  refine c_aload A 0 dX0_init_47 rfl (?_ : Pt 48 _ _ _ _)
  refine c_iconst A dX0_init_48 (?_ : Pt 49 _ _ _ _)
  refine k_put A (j := 8) fl_X0_38 fp_0_8 (Nat.le_of_ble_eq_true rfl) (fs' := [iV (0), iV (0), iV (0), iV (0), iV (0), iV (0), iV (0), rV g (m + 1 + 0), iV (0), .null, .null, .null, .null]) rfl dX0_init_49 (?_ : Pt 52 _ _ _ _)
  refine c_aload A 0 dX0_init_52 rfl (?_ : Pt 53 _ _ _ _)
  refine c_bipush A dX0_init_53 (by decide) (?_ : Pt 55 _ _ _ _)
  refine k_newi A hs1 hz1 (wr_id (by decide)) (by decide) (by decide) dX0_init_55 (?_ : Pt 57 _ _ _ _)
  refine k_putr A (j := 9) fl_X0_41 fq_0_9 (fun C T N h => by cases h; rfl) rfl rfl (Nat.le_of_ble_eq_true rfl) (fs' := [iV (0), iV (0), iV (0), iV (0), iV (0), iV (0), iV (0), rV g (m + 1 + 0), iV (0), rV g (m + 1 + 1), .null, .null, .null]) rfl dX0_init_57 (?_ : Pt 60 _ _ _ _)
  refine c_aload A 0 dX0_init_60 rfl (?_ : Pt 61 _ _ _ _)
  refine c_bipush A dX0_init_61 (by decide) (?_ : Pt 63 _ _ _ _)
  refine k_newi A hs2 hz2 (wr_id (by decide)) (by decide) (by decide) dX0_init_63 (?_ : Pt 65 _ _ _ _)
  refine k_putr A (j := 10) fl_X0_44 fq_0_10 (fun C T N h => by cases h; rfl) rfl rfl (Nat.le_of_ble_eq_true rfl) (fs' := [iV (0), iV (0), iV (0), iV (0), iV (0), iV (0), iV (0), rV g (m + 1 + 0), iV (0), rV g (m + 1 + 1), rV g (m + 1 + 2), .null, .null]) rfl dX0_init_65 (?_ : Pt 68 _ _ _ _)
  refine c_aload A 0 dX0_init_68 rfl (?_ : Pt 69 _ _ _ _)
  refine c_bipush A dX0_init_69 (by decide) (?_ : Pt 71 _ _ _ _)
  refine k_newi A hs3 hz3 (wr_id (by decide)) (by decide) (by decide) dX0_init_71 (?_ : Pt 73 _ _ _ _)
  refine k_putr A (j := 11) fl_X0_47 fq_0_11 (fun C T N h => by cases h; rfl) rfl rfl (Nat.le_of_ble_eq_true rfl) (fs' := [iV (0), iV (0), iV (0), iV (0), iV (0), iV (0), iV (0), rV g (m + 1 + 0), iV (0), rV g (m + 1 + 1), rV g (m + 1 + 2), rV g (m + 1 + 3), .null]) rfl dX0_init_73 (?_ : Pt 76 _ _ _ _)
  refine c_aload A 0 dX0_init_76 rfl (?_ : Pt 77 _ _ _ _)
  refine c_bipush A dX0_init_77 (by decide) (?_ : Pt 79 _ _ _ _)
  refine k_newi A hs4 hz4 (wr_id (by decide)) (by decide) (by decide) dX0_init_79 (?_ : Pt 81 _ _ _ _)
  refine k_putr A (j := 12) fl_X0_50 fq_0_12 (fun C T N h => by cases h; rfl) rfl rfl (Nat.le_of_ble_eq_true rfl) (fs' := [iV (0), iV (0), iV (0), iV (0), iV (0), iV (0), iV (0), rV g (m + 1 + 0), iV (0), rV g (m + 1 + 1), rV g (m + 1 + 2), rV g (m + 1 + 3), rV g (m + 1 + 4)]) rfl dX0_init_81 (?_ : Pt 84 _ _ _ _)
  exact c_ret A rfl dX0_init_84 (he _ (fun k _ => cN_fin (by rw [cE_o (c := 0) hm, h0_z hne]; rfl) k))
set_option maxRecDepth 100000 in
set_option maxHeartbeats 4000000 in
theorem L_ini3 (g : GT) (m : Nat) (c : CF) (hm : sh m = (13, 10)) (hc : c m = .inr (3, df3)) : LmC g 1 7 yX3_init cX3_init 1 [rV g m] (m + 1) c (fin0 g c m) := by
  have hne : m ≠ 1 ∧ m ≠ 0 ∧ m ≠ 167 ∧ m ≠ 168 := ⟨fun q => by subst q; exact absurd hm (by decide), fun q => by subst q; exact absurd hm (by decide), fun q => by subst q; exact absurd hm (by decide), fun q => by subst q; exact absurd hm (by decide)⟩
  have hs0 : sh (m + 1 + 0) = (0, 30) := by exact shAll 13 10 1 0 30 (by decide +kernel) (by decide) hm
  have hz0 : h0 (m + 1 + 0) = fun _ => 0 := h0_z ⟨fun q => by rw [q] at hs0; exact absurd hs0 (by decide), fun q => by omega, fun q => by rw [q] at hs0; exact absurd hs0 (by decide), fun q => by rw [q] at hs0; exact absurd hs0 (by decide)⟩
  have hs1 : sh (m + 1 + 1) = (0, 6) := by exact shAll 13 10 2 0 6 (by decide +kernel) (by decide) hm
  have hz1 : h0 (m + 1 + 1) = fun _ => 0 := h0_z ⟨fun q => by rw [q] at hs1; exact absurd hs1 (by decide), fun q => by omega, fun q => by rw [q] at hs1; exact absurd hs1 (by decide), fun q => by rw [q] at hs1; exact absurd hs1 (by decide)⟩
  have hs2 : sh (m + 1 + 2) = (0, 6) := by exact shAll 13 10 3 0 6 (by decide +kernel) (by decide) hm
  have hz2 : h0 (m + 1 + 2) = fun _ => 0 := h0_z ⟨fun q => by rw [q] at hs2; exact absurd hs2 (by decide), fun q => by omega, fun q => by rw [q] at hs2; exact absurd hs2 (by decide), fun q => by rw [q] at hs2; exact absurd hs2 (by decide)⟩
  have hs3 : sh (m + 1 + 3) = (0, 6) := by exact shAll 13 10 4 0 6 (by decide +kernel) (by decide) hm
  have hz3 : h0 (m + 1 + 3) = fun _ => 0 := h0_z ⟨fun q => by rw [q] at hs3; exact absurd hs3 (by decide), fun q => by omega, fun q => by rw [q] at hs3; exact absurd hs3 (by decide), fun q => by rw [q] at hs3; exact absurd hs3 (by decide)⟩
  have hs4 : sh (m + 1 + 4) = (0, 6) := by exact shAll 13 10 5 0 6 (by decide +kernel) (by decide) hm
  have hz4 : h0 (m + 1 + 4) = fun _ => 0 := h0_z ⟨fun q => by rw [q] at hs4; exact absurd hs4 (by decide), fun q => by omega, fun q => by rw [q] at hs4; exact absurd hs4 (by decide), fun q => by rw [q] at hs4; exact absurd hs4 (by decide)⟩
  have hs5 : sh (m + 1 + 5) = (0, 6) := by exact shAll 13 10 6 0 6 (by decide +kernel) (by decide) hm
  have hz5 : h0 (m + 1 + 5) = fun _ => 0 := h0_z ⟨fun q => by rw [q] at hs5; exact absurd hs5 (by decide), fun q => by omega, fun q => by rw [q] at hs5; exact absurd hs5 (by decide), fun q => by rw [q] at hs5; exact absurd hs5 (by decide)⟩
  have hs6 : sh (m + 1 + 6) = (0, 6) := by exact shAll 13 10 7 0 6 (by decide +kernel) (by decide) hm
  have hz6 : h0 (m + 1 + 6) = fun _ => 0 := h0_z ⟨fun q => by rw [q] at hs6; exact absurd hs6 (by decide), fun q => by omega, fun q => by rw [q] at hs6; exact absurd hs6 (by decide), fun q => by rw [q] at hs6; exact absurd hs6 (by decide)⟩
  refine LmC.of (by decide) rfl (Nat.le_of_ble_eq_true rfl) (fun Pt En A he => ?_)
  refine (?_ : Pt 0 [(0, rV g m)] [] 0 c)
  refine c_cong A (c' := cN g c m 3 df3) (fun k hk => ?_) ?_
  · have : k ≤ m := by omega
    by_cases h1 : k = m
    · subst h1; rw [cN_m]; exact hc
    · simp [cN, show k < m by omega]
  refine c_aload A 0 dX3_init_0 rfl (?_ : Pt 1 _ _ _ _)
  refine c_obj A objW lo_X3 (Nat.le_of_ble_eq_true rfl) dX3_init_1 (?_ : Pt 4 _ _ _ _)
  refine c_aload A 0 dX3_init_4 rfl (?_ : Pt 5 _ _ _ _)
  refine c_iconst A dX3_init_5 (?_ : Pt 6 _ _ _ _)
  refine k_put A (j := 0) fl_X3_9 fp_3_0 (Nat.le_of_ble_eq_true rfl) (fs' := [iV (0), .int 0, .int 0, .null, .null, .null, .null, .null, .null, .null]) rfl dX3_init_6 (?_ : Pt 9 _ _ _ _)
  refine c_aload A 0 dX3_init_9 rfl (?_ : Pt 10 _ _ _ _)
  refine c_iconst A dX3_init_10 (?_ : Pt 11 _ _ _ _)
  refine k_put A (j := 1) fl_X3_15 fp_3_1 (Nat.le_of_ble_eq_true rfl) (fs' := [iV (0), iV (0), .int 0, .null, .null, .null, .null, .null, .null, .null]) rfl dX3_init_11 (?_ : Pt 14 _ _ _ _)
  refine c_aload A 0 dX3_init_14 rfl (?_ : Pt 15 _ _ _ _)
  refine c_iconst A dX3_init_15 (?_ : Pt 16 _ _ _ _)
  refine k_put A (j := 2) fl_X3_18 fp_3_2 (Nat.le_of_ble_eq_true rfl) (fs' := [iV (0), iV (0), iV (0), .null, .null, .null, .null, .null, .null, .null]) rfl dX3_init_16 (?_ : Pt 19 _ _ _ _)
  refine c_aload A 0 dX3_init_19 rfl (?_ : Pt 20 _ _ _ _)
  refine c_bipush A dX3_init_20 (by decide) (?_ : Pt 22 _ _ _ _)
  refine k_newi A hs0 hz0 (wr_id (by decide)) (by decide) (by decide) dX3_init_22 (?_ : Pt 24 _ _ _ _)
  refine k_putr A (j := 3) fl_X3_21 fq_3_3 (fun C T N h => by cases h; rfl) rfl rfl (Nat.le_of_ble_eq_true rfl) (fs' := [iV (0), iV (0), iV (0), rV g (m + 1 + 0), .null, .null, .null, .null, .null, .null]) rfl dX3_init_24 (?_ : Pt 27 _ _ _ _)
  refine c_aload A 0 dX3_init_27 rfl (?_ : Pt 28 _ _ _ _)
  refine c_bipush A dX3_init_28 (by decide) (?_ : Pt 30 _ _ _ _)
  refine k_newi A hs1 hz1 (wr_id (by decide)) (by decide) (by decide) dX3_init_30 (?_ : Pt 32 _ _ _ _)
  refine k_putr A (j := 4) fl_X3_25 fq_3_4 (fun C T N h => by cases h; rfl) rfl rfl (Nat.le_of_ble_eq_true rfl) (fs' := [iV (0), iV (0), iV (0), rV g (m + 1 + 0), rV g (m + 1 + 1), .null, .null, .null, .null, .null]) rfl dX3_init_32 (?_ : Pt 35 _ _ _ _)
  refine c_aload A 0 dX3_init_35 rfl (?_ : Pt 36 _ _ _ _)
  refine c_bipush A dX3_init_36 (by decide) (?_ : Pt 38 _ _ _ _)
  refine k_newi A hs2 hz2 (wr_id (by decide)) (by decide) (by decide) dX3_init_38 (?_ : Pt 40 _ _ _ _)
  refine k_putr A (j := 5) fl_X3_28 fq_3_5 (fun C T N h => by cases h; rfl) rfl rfl (Nat.le_of_ble_eq_true rfl) (fs' := [iV (0), iV (0), iV (0), rV g (m + 1 + 0), rV g (m + 1 + 1), rV g (m + 1 + 2), .null, .null, .null, .null]) rfl dX3_init_40 (?_ : Pt 43 _ _ _ _)
  refine c_aload A 0 dX3_init_43 rfl (?_ : Pt 44 _ _ _ _)
  refine c_bipush A dX3_init_44 (by decide) (?_ : Pt 46 _ _ _ _)
  refine k_newi A hs3 hz3 (wr_id (by decide)) (by decide) (by decide) dX3_init_46 (?_ : Pt 48 _ _ _ _)
  refine k_putr A (j := 6) fl_X3_31 fq_3_6 (fun C T N h => by cases h; rfl) rfl rfl (Nat.le_of_ble_eq_true rfl) (fs' := [iV (0), iV (0), iV (0), rV g (m + 1 + 0), rV g (m + 1 + 1), rV g (m + 1 + 2), rV g (m + 1 + 3), .null, .null, .null]) rfl dX3_init_48 (?_ : Pt 51 _ _ _ _)
  refine c_aload A 0 dX3_init_51 rfl (?_ : Pt 52 _ _ _ _)
  refine c_bipush A dX3_init_52 (by decide) (?_ : Pt 54 _ _ _ _)
  refine k_newi A hs4 hz4 (wr_id (by decide)) (by decide) (by decide) dX3_init_54 (?_ : Pt 56 _ _ _ _)
  refine k_putr A (j := 7) fl_X3_34 fq_3_7 (fun C T N h => by cases h; rfl) rfl rfl (Nat.le_of_ble_eq_true rfl) (fs' := [iV (0), iV (0), iV (0), rV g (m + 1 + 0), rV g (m + 1 + 1), rV g (m + 1 + 2), rV g (m + 1 + 3), rV g (m + 1 + 4), .null, .null]) rfl dX3_init_56 (?_ : Pt 59 _ _ _ _)
  refine c_aload A 0 dX3_init_59 rfl (?_ : Pt 60 _ _ _ _)
  refine c_bipush A dX3_init_60 (by decide) (?_ : Pt 62 _ _ _ _)
  refine k_newi A hs5 hz5 (wr_id (by decide)) (by decide) (by decide) dX3_init_62 (?_ : Pt 64 _ _ _ _)
  refine k_putr A (j := 8) fl_X3_37 fq_3_8 (fun C T N h => by cases h; rfl) rfl rfl (Nat.le_of_ble_eq_true rfl) (fs' := [iV (0), iV (0), iV (0), rV g (m + 1 + 0), rV g (m + 1 + 1), rV g (m + 1 + 2), rV g (m + 1 + 3), rV g (m + 1 + 4), rV g (m + 1 + 5), .null]) rfl dX3_init_64 (?_ : Pt 67 _ _ _ _)
  refine c_aload A 0 dX3_init_67 rfl (?_ : Pt 68 _ _ _ _)
  refine c_bipush A dX3_init_68 (by decide) (?_ : Pt 70 _ _ _ _)
  refine k_newi A hs6 hz6 (wr_id (by decide)) (by decide) (by decide) dX3_init_70 (?_ : Pt 72 _ _ _ _)
  refine k_putr A (j := 9) fl_X3_40 fq_3_9 (fun C T N h => by cases h; rfl) rfl rfl (Nat.le_of_ble_eq_true rfl) (fs' := [iV (0), iV (0), iV (0), rV g (m + 1 + 0), rV g (m + 1 + 1), rV g (m + 1 + 2), rV g (m + 1 + 3), rV g (m + 1 + 4), rV g (m + 1 + 5), rV g (m + 1 + 6)]) rfl dX3_init_72 (?_ : Pt 75 _ _ _ _)
  exact c_ret A rfl dX3_init_75 (he _ (fun k _ => cN_fin (by rw [cE_o (c := 3) hm, h0_z hne]; rfl) k))
set_option maxRecDepth 100000 in
set_option maxHeartbeats 4000000 in
theorem L_ini4 (g : GT) (m : Nat) (c : CF) (hm : sh m = (14, 4)) (hc : c m = .inr (4, df4)) : LmC g 1 1 yX4_init cX4_init 1 [rV g m] (m + 1) c (fin0 g c m) := by
  have hne : m ≠ 1 ∧ m ≠ 0 ∧ m ≠ 167 ∧ m ≠ 168 := ⟨fun q => by subst q; exact absurd hm (by decide), fun q => by subst q; exact absurd hm (by decide), fun q => by subst q; exact absurd hm (by decide), fun q => by subst q; exact absurd hm (by decide)⟩
  have hs0 : sh (m + 1 + 0) = (1, 60) := by exact shAll 14 4 1 1 60 (by decide +kernel) (by decide) hm
  have hz0 : h0 (m + 1 + 0) = fun _ => 0 := h0_z ⟨fun q => by rw [q] at hs0; exact absurd hs0 (by decide), fun q => by omega, fun q => by rw [q] at hs0; exact absurd hs0 (by decide), fun q => by rw [q] at hs0; exact absurd hs0 (by decide)⟩
  refine LmC.of (by decide) rfl (Nat.le_of_ble_eq_true rfl) (fun Pt En A he => ?_)
  refine (?_ : Pt 0 [(0, rV g m)] [] 0 c)
  refine c_cong A (c' := cN g c m 4 df4) (fun k hk => ?_) ?_
  · have : k ≤ m := by omega
    by_cases h1 : k = m
    · subst h1; rw [cN_m]; exact hc
    · simp [cN, show k < m by omega]
  refine c_aload A 0 dX4_init_0 rfl (?_ : Pt 1 _ _ _ _)
  refine c_obj A objW lo_X4 (Nat.le_of_ble_eq_true rfl) dX4_init_1 (?_ : Pt 4 _ _ _ _)
  refine c_aload A 0 dX4_init_4 rfl (?_ : Pt 5 _ _ _ _)
  refine c_iconst A dX4_init_5 (?_ : Pt 6 _ _ _ _)
  refine k_putz A (j := 0) (Or.inl rfl) fl_X4_9 fp_4_0 (Nat.le_of_ble_eq_true rfl) (fs' := [iV (0), .int 0, .int 0, .null]) rfl dX4_init_6 (?_ : Pt 9 _ _ _ _)
  refine c_aload A 0 dX4_init_9 rfl (?_ : Pt 10 _ _ _ _)
  refine c_iconst A dX4_init_10 (?_ : Pt 11 _ _ _ _)
  refine k_put A (j := 1) fl_X4_15 fp_4_1 (Nat.le_of_ble_eq_true rfl) (fs' := [iV (0), iV (0), .int 0, .null]) rfl dX4_init_11 (?_ : Pt 14 _ _ _ _)
  refine c_aload A 0 dX4_init_14 rfl (?_ : Pt 15 _ _ _ _)
  refine c_iconst A dX4_init_15 (?_ : Pt 16 _ _ _ _)
  refine k_put A (j := 2) fl_X4_19 fp_4_2 (Nat.le_of_ble_eq_true rfl) (fs' := [iV (0), iV (0), iV (0), .null]) rfl dX4_init_16 (?_ : Pt 19 _ _ _ _)
  refine c_aload A 0 dX4_init_19 rfl (?_ : Pt 20 _ _ _ _)
  refine c_bipush A dX4_init_20 (by decide) (?_ : Pt 22 _ _ _ _)
  refine k_newl A hs0 hz0 (wr_id (by decide)) (by decide) (by decide) dX4_init_22 (?_ : Pt 24 _ _ _ _)
  refine k_putr A (j := 3) fl_X4_22 fq_4_3 (fun C T N h => by cases h; rfl) rfl rfl (Nat.le_of_ble_eq_true rfl) (fs' := [iV (0), iV (0), iV (0), rV g (m + 1 + 0)]) rfl dX4_init_24 (?_ : Pt 27 _ _ _ _)
  exact c_ret A rfl dX4_init_27 (he _ (fun k _ => cN_fin (by rw [cE_o (c := 4) hm, h0_z hne]; rfl) k))
set_option maxRecDepth 100000 in
set_option maxHeartbeats 4000000 in
theorem L_ini1 (g : GT) (m : Nat) (c : CF) (hm : sh m = (11, 12)) (hc : c m = .inr (1, df1)) : LmC g 1 4 yX1_init cX1_init 1 [rV g m] (m + 1) c (fin0 g c m) := by
  have hne : m ≠ 1 ∧ m ≠ 0 ∧ m ≠ 167 ∧ m ≠ 168 := ⟨fun q => by subst q; exact absurd hm (by decide), fun q => by subst q; exact absurd hm (by decide), fun q => by subst q; exact absurd hm (by decide), fun q => by subst q; exact absurd hm (by decide)⟩
  have hs0 : sh (m + 1 + 0) = (0, 6) := by exact shAll 11 12 1 0 6 (by decide +kernel) (by decide) hm
  have hz0 : h0 (m + 1 + 0) = fun _ => 0 := h0_z ⟨fun q => by rw [q] at hs0; exact absurd hs0 (by decide), fun q => by omega, fun q => by rw [q] at hs0; exact absurd hs0 (by decide), fun q => by rw [q] at hs0; exact absurd hs0 (by decide)⟩
  have hs1 : sh (m + 1 + 1) = (0, 42) := by exact shAll 11 12 2 0 42 (by decide +kernel) (by decide) hm
  have hz1 : h0 (m + 1 + 1) = fun _ => 0 := h0_z ⟨fun q => by rw [q] at hs1; exact absurd hs1 (by decide), fun q => by omega, fun q => by rw [q] at hs1; exact absurd hs1 (by decide), fun q => by rw [q] at hs1; exact absurd hs1 (by decide)⟩
  have hs2 : sh (m + 1 + 2) = (0, 42) := by exact shAll 11 12 3 0 42 (by decide +kernel) (by decide) hm
  have hz2 : h0 (m + 1 + 2) = fun _ => 0 := h0_z ⟨fun q => by rw [q] at hs2; exact absurd hs2 (by decide), fun q => by omega, fun q => by rw [q] at hs2; exact absurd hs2 (by decide), fun q => by rw [q] at hs2; exact absurd hs2 (by decide)⟩
  have hs3 : sh (m + 1 + 3) = (0, 6) := by exact shAll 11 12 4 0 6 (by decide +kernel) (by decide) hm
  have hz3 : h0 (m + 1 + 3) = fun _ => 0 := h0_z ⟨fun q => by rw [q] at hs3; exact absurd hs3 (by decide), fun q => by omega, fun q => by rw [q] at hs3; exact absurd hs3 (by decide), fun q => by rw [q] at hs3; exact absurd hs3 (by decide)⟩
  refine LmC.of (by decide) rfl (Nat.le_of_ble_eq_true rfl) (fun Pt En A he => ?_)
  refine (?_ : Pt 0 [(0, rV g m)] [] 0 c)
  refine c_cong A (c' := cN g c m 1 df1) (fun k hk => ?_) ?_
  · have : k ≤ m := by omega
    by_cases h1 : k = m
    · subst h1; rw [cN_m]; exact hc
    · simp [cN, show k < m by omega]
  refine c_aload A 0 dX1_init_0 rfl (?_ : Pt 1 _ _ _ _)
  refine c_obj A objW lo_X1 (Nat.le_of_ble_eq_true rfl) dX1_init_1 (?_ : Pt 4 _ _ _ _)
  refine c_aload A 0 dX1_init_4 rfl (?_ : Pt 5 _ _ _ _)
  refine c_iconst A dX1_init_5 (?_ : Pt 6 _ _ _ _)
  refine k_put A (j := 0) fl_X1_9 fp_1_0 (Nat.le_of_ble_eq_true rfl) (fs' := [iV (0), .int 0, .int 0, .int 0, .null, .null, .null, .null, .int 0, .int 0, .int 0, .int 0]) rfl dX1_init_6 (?_ : Pt 9 _ _ _ _)
  refine c_aload A 0 dX1_init_9 rfl (?_ : Pt 10 _ _ _ _)
  refine c_iconst A dX1_init_10 (?_ : Pt 11 _ _ _ _)
  refine k_put A (j := 1) fl_X1_15 fp_1_1 (Nat.le_of_ble_eq_true rfl) (fs' := [iV (0), iV (0), .int 0, .int 0, .null, .null, .null, .null, .int 0, .int 0, .int 0, .int 0]) rfl dX1_init_11 (?_ : Pt 14 _ _ _ _)
  refine c_aload A 0 dX1_init_14 rfl (?_ : Pt 15 _ _ _ _)
  refine c_iconst A dX1_init_15 (?_ : Pt 16 _ _ _ _)
  refine k_put A (j := 2) fl_X1_18 fp_1_2 (Nat.le_of_ble_eq_true rfl) (fs' := [iV (0), iV (0), iV (0), .int 0, .null, .null, .null, .null, .int 0, .int 0, .int 0, .int 0]) rfl dX1_init_16 (?_ : Pt 19 _ _ _ _)
  refine c_aload A 0 dX1_init_19 rfl (?_ : Pt 20 _ _ _ _)
  refine c_iconst A dX1_init_20 (?_ : Pt 21 _ _ _ _)
  refine k_put A (j := 3) fl_X1_21 fp_1_3 (Nat.le_of_ble_eq_true rfl) (fs' := [iV (0), iV (0), iV (0), iV (0), .null, .null, .null, .null, .int 0, .int 0, .int 0, .int 0]) rfl dX1_init_21 (?_ : Pt 24 _ _ _ _)
  refine c_aload A 0 dX1_init_24 rfl (?_ : Pt 25 _ _ _ _)
  refine c_bipush A dX1_init_25 (by decide) (?_ : Pt 27 _ _ _ _)
  refine k_newi A hs0 hz0 (wr_id (by decide)) (by decide) (by decide) dX1_init_27 (?_ : Pt 29 _ _ _ _)
  refine k_putr A (j := 4) fl_X1_24 fq_1_4 (fun C T N h => by cases h; rfl) rfl rfl (Nat.le_of_ble_eq_true rfl) (fs' := [iV (0), iV (0), iV (0), iV (0), rV g (m + 1 + 0), .null, .null, .null, .int 0, .int 0, .int 0, .int 0]) rfl dX1_init_29 (?_ : Pt 32 _ _ _ _)
  refine c_aload A 0 dX1_init_32 rfl (?_ : Pt 33 _ _ _ _)
  refine c_bipush A dX1_init_33 (by decide) (?_ : Pt 35 _ _ _ _)
  refine k_newi A hs1 hz1 (wr_id (by decide)) (by decide) (by decide) dX1_init_35 (?_ : Pt 37 _ _ _ _)
  refine k_putr A (j := 5) fl_X1_28 fq_1_5 (fun C T N h => by cases h; rfl) rfl rfl (Nat.le_of_ble_eq_true rfl) (fs' := [iV (0), iV (0), iV (0), iV (0), rV g (m + 1 + 0), rV g (m + 1 + 1), .null, .null, .int 0, .int 0, .int 0, .int 0]) rfl dX1_init_37 (?_ : Pt 40 _ _ _ _)
  refine c_aload A 0 dX1_init_40 rfl (?_ : Pt 41 _ _ _ _)
  refine c_bipush A dX1_init_41 (by decide) (?_ : Pt 43 _ _ _ _)
  refine k_newi A hs2 hz2 (wr_id (by decide)) (by decide) (by decide) dX1_init_43 (?_ : Pt 45 _ _ _ _)
  refine k_putr A (j := 6) fl_X1_31 fq_1_6 (fun C T N h => by cases h; rfl) rfl rfl (Nat.le_of_ble_eq_true rfl) (fs' := [iV (0), iV (0), iV (0), iV (0), rV g (m + 1 + 0), rV g (m + 1 + 1), rV g (m + 1 + 2), .null, .int 0, .int 0, .int 0, .int 0]) rfl dX1_init_45 (?_ : Pt 48 _ _ _ _)
  refine c_aload A 0 dX1_init_48 rfl (?_ : Pt 49 _ _ _ _)
  refine c_bipush A dX1_init_49 (by decide) (?_ : Pt 51 _ _ _ _)
  refine k_newi A hs3 hz3 (wr_id (by decide)) (by decide) (by decide) dX1_init_51 (?_ : Pt 53 _ _ _ _)
  refine k_putr A (j := 7) fl_X1_34 fq_1_7 (fun C T N h => by cases h; rfl) rfl rfl (Nat.le_of_ble_eq_true rfl) (fs' := [iV (0), iV (0), iV (0), iV (0), rV g (m + 1 + 0), rV g (m + 1 + 1), rV g (m + 1 + 2), rV g (m + 1 + 3), .int 0, .int 0, .int 0, .int 0]) rfl dX1_init_53 (?_ : Pt 56 _ _ _ _)
  refine c_aload A 0 dX1_init_56 rfl (?_ : Pt 57 _ _ _ _)
  refine c_iconst A dX1_init_57 (?_ : Pt 58 _ _ _ _)
  refine k_put A (j := 8) fl_X1_37 fp_1_8 (Nat.le_of_ble_eq_true rfl) (fs' := [iV (0), iV (0), iV (0), iV (0), rV g (m + 1 + 0), rV g (m + 1 + 1), rV g (m + 1 + 2), rV g (m + 1 + 3), iV (0), .int 0, .int 0, .int 0]) rfl dX1_init_58 (?_ : Pt 61 _ _ _ _)
  refine c_aload A 0 dX1_init_61 rfl (?_ : Pt 62 _ _ _ _)
  refine c_iconst A dX1_init_62 (?_ : Pt 63 _ _ _ _)
  refine k_put A (j := 9) fl_X1_40 fp_1_9 (Nat.le_of_ble_eq_true rfl) (fs' := [iV (0), iV (0), iV (0), iV (0), rV g (m + 1 + 0), rV g (m + 1 + 1), rV g (m + 1 + 2), rV g (m + 1 + 3), iV (0), iV (0), .int 0, .int 0]) rfl dX1_init_63 (?_ : Pt 66 _ _ _ _)
  refine c_aload A 0 dX1_init_66 rfl (?_ : Pt 67 _ _ _ _)
  refine c_iconst A dX1_init_67 (?_ : Pt 68 _ _ _ _)
  refine k_put A (j := 10) fl_X1_43 fp_1_10 (Nat.le_of_ble_eq_true rfl) (fs' := [iV (0), iV (0), iV (0), iV (0), rV g (m + 1 + 0), rV g (m + 1 + 1), rV g (m + 1 + 2), rV g (m + 1 + 3), iV (0), iV (0), iV (0), .int 0]) rfl dX1_init_68 (?_ : Pt 71 _ _ _ _)
  refine c_aload A 0 dX1_init_71 rfl (?_ : Pt 72 _ _ _ _)
  refine c_iconst A dX1_init_72 (?_ : Pt 73 _ _ _ _)
  refine k_put A (j := 11) fl_X1_46 fp_1_11 (Nat.le_of_ble_eq_true rfl) (fs' := [iV (0), iV (0), iV (0), iV (0), rV g (m + 1 + 0), rV g (m + 1 + 1), rV g (m + 1 + 2), rV g (m + 1 + 3), iV (0), iV (0), iV (0), iV (0)]) rfl dX1_init_73 (?_ : Pt 76 _ _ _ _)
  exact c_ret A rfl dX1_init_76 (he _ (fun k _ => cN_fin (by rw [cE_o (c := 1) hm, h0_z hne]; rfl) k))
set_option maxRecDepth 100000 in
set_option maxHeartbeats 4000000 in
theorem L_ini5 (g : GT) (m : Nat) (c : CF) (hm : sh m = (15, 7)) (hc : c m = .inr (5, df5)) : LmC g 1 3 yX5_init cX5_init 1 [rV g m] (m + 1) c (fin0 g c m) := by
  have hne : m ≠ 1 ∧ m ≠ 0 ∧ m ≠ 167 ∧ m ≠ 168 := ⟨fun q => by subst q; exact absurd hm (by decide), fun q => by subst q; exact absurd hm (by decide), fun q => by subst q; exact absurd hm (by decide), fun q => by subst q; exact absurd hm (by decide)⟩
  have hs0 : sh (m + 1 + 0) = (0, 192) := by exact shAll 15 7 1 0 192 (by decide +kernel) (by decide) hm
  have hz0 : h0 (m + 1 + 0) = fun _ => 0 := h0_z ⟨fun q => by rw [q] at hs0; exact absurd hs0 (by decide), fun q => by omega, fun q => by rw [q] at hs0; exact absurd hs0 (by decide), fun q => by rw [q] at hs0; exact absurd hs0 (by decide)⟩
  have hs1 : sh (m + 1 + 1) = (3, 32) := by exact shAll 15 7 2 3 32 (by decide +kernel) (by decide) hm
  have hz1 : h0 (m + 1 + 1) = fun _ => 0 := h0_z ⟨fun q => by rw [q] at hs1; exact absurd hs1 (by decide), fun q => by omega, fun q => by rw [q] at hs1; exact absurd hs1 (by decide), fun q => by rw [q] at hs1; exact absurd hs1 (by decide)⟩
  have hs2 : sh (m + 1 + 2) = (0, 6) := by exact shAll 15 7 3 0 6 (by decide +kernel) (by decide) hm
  have hz2 : h0 (m + 1 + 2) = fun _ => 0 := h0_z ⟨fun q => by rw [q] at hs2; exact absurd hs2 (by decide), fun q => by omega, fun q => by rw [q] at hs2; exact absurd hs2 (by decide), fun q => by rw [q] at hs2; exact absurd hs2 (by decide)⟩
  refine LmC.of (by decide) rfl (Nat.le_of_ble_eq_true rfl) (fun Pt En A he => ?_)
  refine (?_ : Pt 0 [(0, rV g m)] [] 0 c)
  refine c_cong A (c' := cN g c m 5 df5) (fun k hk => ?_) ?_
  · have : k ≤ m := by omega
    by_cases h1 : k = m
    · subst h1; rw [cN_m]; exact hc
    · simp [cN, show k < m by omega]
  refine c_aload A 0 dX5_init_0 rfl (?_ : Pt 1 _ _ _ _)
  refine c_obj A objW lo_X5 (Nat.le_of_ble_eq_true rfl) dX5_init_1 (?_ : Pt 4 _ _ _ _)
  refine c_aload A 0 dX5_init_4 rfl (?_ : Pt 5 _ _ _ _)
  refine c_iconst A dX5_init_5 (?_ : Pt 6 _ _ _ _)
  refine k_put A (j := 0) fl_X5_9 fp_5_0 (Nat.le_of_ble_eq_true rfl) (fs' := [iV (0), .null, .null, .null, .int 0, .int 0, .int 0]) rfl dX5_init_6 (?_ : Pt 9 _ _ _ _)
  refine c_aload A 0 dX5_init_9 rfl (?_ : Pt 10 _ _ _ _)
  refine c_sipush A dX5_init_10 (by decide) (?_ : Pt 13 _ _ _ _)
  refine k_newi A hs0 hz0 (wr_id (by decide)) (by decide) (by decide) dX5_init_13 (?_ : Pt 15 _ _ _ _)
  refine k_putr A (j := 1) fl_X5_15 fq_5_1 (fun C T N h => by cases h; rfl) rfl rfl (Nat.le_of_ble_eq_true rfl) (fs' := [iV (0), rV g (m + 1 + 0), .null, .null, .int 0, .int 0, .int 0]) rfl dX5_init_15 (?_ : Pt 18 _ _ _ _)
  refine c_aload A 0 dX5_init_18 rfl (?_ : Pt 19 _ _ _ _)
  refine c_bipush A dX5_init_19 (by decide) (?_ : Pt 21 _ _ _ _)
  refine k_newz A hs1 hz1 (wr_id (by decide)) (by decide) (by decide) dX5_init_21 (?_ : Pt 23 _ _ _ _)
  refine k_putr A (j := 2) fl_X5_19 fq_5_2 (fun C T N h => by cases h; rfl) rfl rfl (Nat.le_of_ble_eq_true rfl) (fs' := [iV (0), rV g (m + 1 + 0), rV g (m + 1 + 1), .null, .int 0, .int 0, .int 0]) rfl dX5_init_23 (?_ : Pt 26 _ _ _ _)
  refine c_aload A 0 dX5_init_26 rfl (?_ : Pt 27 _ _ _ _)
  refine c_bipush A dX5_init_27 (by decide) (?_ : Pt 29 _ _ _ _)
  refine k_newi A hs2 hz2 (wr_id (by decide)) (by decide) (by decide) dX5_init_29 (?_ : Pt 31 _ _ _ _)
  refine k_putr A (j := 3) fl_X5_23 fq_5_3 (fun C T N h => by cases h; rfl) rfl rfl (Nat.le_of_ble_eq_true rfl) (fs' := [iV (0), rV g (m + 1 + 0), rV g (m + 1 + 1), rV g (m + 1 + 2), .int 0, .int 0, .int 0]) rfl dX5_init_31 (?_ : Pt 34 _ _ _ _)
  refine c_aload A 0 dX5_init_34 rfl (?_ : Pt 35 _ _ _ _)
  refine c_iconst A dX5_init_35 (?_ : Pt 36 _ _ _ _)
  refine k_put A (j := 4) fl_X5_26 fp_5_4 (Nat.le_of_ble_eq_true rfl) (fs' := [iV (0), rV g (m + 1 + 0), rV g (m + 1 + 1), rV g (m + 1 + 2), iV (0), .int 0, .int 0]) rfl dX5_init_36 (?_ : Pt 39 _ _ _ _)
  refine c_aload A 0 dX5_init_39 rfl (?_ : Pt 40 _ _ _ _)
  refine c_iconst A dX5_init_40 (?_ : Pt 41 _ _ _ _)
  refine k_put A (j := 5) fl_X5_29 fp_5_5 (Nat.le_of_ble_eq_true rfl) (fs' := [iV (0), rV g (m + 1 + 0), rV g (m + 1 + 1), rV g (m + 1 + 2), iV (0), iV (0), .int 0]) rfl dX5_init_41 (?_ : Pt 44 _ _ _ _)
  refine c_aload A 0 dX5_init_44 rfl (?_ : Pt 45 _ _ _ _)
  refine c_iconst A dX5_init_45 (?_ : Pt 46 _ _ _ _)
  refine k_put A (j := 6) fl_X5_32 fp_5_6 (Nat.le_of_ble_eq_true rfl) (fs' := [iV (0), rV g (m + 1 + 0), rV g (m + 1 + 1), rV g (m + 1 + 2), iV (0), iV (0), iV (0)]) rfl dX5_init_46 (?_ : Pt 49 _ _ _ _)
  exact c_ret A rfl dX5_init_49 (he _ (fun k _ => cN_fin (by rw [cE_o (c := 5) hm, h0_z hne]; rfl) k))
set_option maxRecDepth 100000 in
set_option maxHeartbeats 4000000 in
theorem L_ini6 (g : GT) (m : Nat) (c : CF) (hm : sh m = (16, 0)) (hc : c m = .inr (6, df6)) : LmC g 1 0 yX6_init cX6_init 1 [rV g m] (m + 1) c (fin0 g c m) := by
  have hne : m ≠ 1 ∧ m ≠ 0 ∧ m ≠ 167 ∧ m ≠ 168 := ⟨fun q => by subst q; exact absurd hm (by decide), fun q => by subst q; exact absurd hm (by decide), fun q => by subst q; exact absurd hm (by decide), fun q => by subst q; exact absurd hm (by decide)⟩
  refine LmC.of (by decide) rfl (Nat.le_of_ble_eq_true rfl) (fun Pt En A he => ?_)
  refine (?_ : Pt 0 [(0, rV g m)] [] 0 c)
  refine c_cong A (c' := cN g c m 6 df6) (fun k hk => ?_) ?_
  · have : k ≤ m := by omega
    by_cases h1 : k = m
    · subst h1; rw [cN_m]; exact hc
    · simp [cN, show k < m by omega]
  refine c_aload A 0 dX6_init_0 rfl (?_ : Pt 1 _ _ _ _)
  refine c_obj A objW lo_X6 (Nat.le_of_ble_eq_true rfl) dX6_init_1 (?_ : Pt 4 _ _ _ _)
  exact c_ret A rfl dX6_init_4 (he _ (fun k _ => cN_fin (by rw [cE_o hm]; rfl) k))
set_option maxRecDepth 100000 in
set_option maxHeartbeats 4000000 in
theorem L_ini2 (g : GT) (c : CF) (hc : c 1 = .inr (2, df2)) : LmC g 1 1 yX2_init cX2_init 1 [rV g 1] 2 c (fin0 g c 1) := by
  have hm : sh 1 = (12, 9) := rfl
  have hs0 : sh (1 + 1 + 0) = (2, 800) := rfl
  have hz0 : h0 (1 + 1 + 0) = fun _ => 0 := h0_z (by decide)
  refine LmC.of (by decide) rfl (Nat.le_of_ble_eq_true rfl) (fun Pt En A he => ?_)
  refine (?_ : Pt 0 [(0, rV g 1)] [] 0 c)
  refine c_cong A (c' := cN g c 1 2 df2) (fun k hk => ?_) ?_
  · have : k ≤ 1 := by omega
    by_cases h1 : k = 1
    · subst h1; rw [cN_m]; exact hc
    · simp [cN, show k < 1 by omega]
  refine c_aload A 0 dX2_init_0 rfl (?_ : Pt 1 _ _ _ _)
  refine c_obj A objW lo_X2 (Nat.le_of_ble_eq_true rfl) dX2_init_1 (?_ : Pt 4 _ _ _ _)
  refine c_aload A 0 dX2_init_4 rfl (?_ : Pt 5 _ _ _ _)
  refine c_iconst A dX2_init_5 (?_ : Pt 6 _ _ _ _)
  refine k_put A (j := 0) fl_X2_9 fp_2_0 (Nat.le_of_ble_eq_true rfl) (fs' := [iV (0), .int 0, .int 0, .null, .int 0, .int 0, .int 0, .int 0, .int 0]) rfl dX2_init_6 (?_ : Pt 9 _ _ _ _)
  refine c_aload A 0 dX2_init_9 rfl (?_ : Pt 10 _ _ _ _)
  refine c_iconst A dX2_init_10 (?_ : Pt 11 _ _ _ _)
  refine k_put A (j := 1) fl_X2_15 fp_2_1 (Nat.le_of_ble_eq_true rfl) (fs' := [iV (0), iV (-1), .int 0, .null, .int 0, .int 0, .int 0, .int 0, .int 0]) rfl dX2_init_11 (?_ : Pt 14 _ _ _ _)
  refine c_aload A 0 dX2_init_14 rfl (?_ : Pt 15 _ _ _ _)
  refine c_iconst A dX2_init_15 (?_ : Pt 16 _ _ _ _)
  refine k_put A (j := 2) fl_X2_18 fp_2_2 (Nat.le_of_ble_eq_true rfl) (fs' := [iV (0), iV (-1), iV (0), .null, .int 0, .int 0, .int 0, .int 0, .int 0]) rfl dX2_init_16 (?_ : Pt 19 _ _ _ _)
  refine c_aload A 0 dX2_init_19 rfl (?_ : Pt 20 _ _ _ _)
  refine c_sipush A dX2_init_20 (by decide) (?_ : Pt 23 _ _ _ _)
  refine k_newb A hs0 hz0 (wr_id (by decide)) (by decide) (by decide) dX2_init_23 (?_ : Pt 25 _ _ _ _)
  refine k_putr A (j := 3) fl_X2_21 fq_2_3 (fun C T N h => by cases h; rfl) rfl rfl (Nat.le_of_ble_eq_true rfl) (fs' := [iV (0), iV (-1), iV (0), rV g (1 + 1 + 0), .int 0, .int 0, .int 0, .int 0, .int 0]) rfl dX2_init_25 (?_ : Pt 28 _ _ _ _)
  refine c_aload A 0 dX2_init_28 rfl (?_ : Pt 29 _ _ _ _)
  refine c_iconst A dX2_init_29 (?_ : Pt 30 _ _ _ _)
  refine k_put A (j := 4) fl_X2_25 fp_2_4 (Nat.le_of_ble_eq_true rfl) (fs' := [iV (0), iV (-1), iV (0), rV g (1 + 1 + 0), iV (0), .int 0, .int 0, .int 0, .int 0]) rfl dX2_init_30 (?_ : Pt 33 _ _ _ _)
  refine c_aload A 0 dX2_init_33 rfl (?_ : Pt 34 _ _ _ _)
  refine c_iconst A dX2_init_34 (?_ : Pt 35 _ _ _ _)
  refine k_put A (j := 5) fl_X2_28 fp_2_5 (Nat.le_of_ble_eq_true rfl) (fs' := [iV (0), iV (-1), iV (0), rV g (1 + 1 + 0), iV (0), iV (0), .int 0, .int 0, .int 0]) rfl dX2_init_35 (?_ : Pt 38 _ _ _ _)
  refine c_aload A 0 dX2_init_38 rfl (?_ : Pt 39 _ _ _ _)
  refine c_iconst A dX2_init_39 (?_ : Pt 40 _ _ _ _)
  refine k_put A (j := 6) fl_X2_31 fp_2_6 (Nat.le_of_ble_eq_true rfl) (fs' := [iV (0), iV (-1), iV (0), rV g (1 + 1 + 0), iV (0), iV (0), iV (0), .int 0, .int 0]) rfl dX2_init_40 (?_ : Pt 43 _ _ _ _)
  refine c_aload A 0 dX2_init_43 rfl (?_ : Pt 44 _ _ _ _)
  refine c_iconst A dX2_init_44 (?_ : Pt 45 _ _ _ _)
  refine k_put A (j := 7) fl_X2_34 fp_2_7 (Nat.le_of_ble_eq_true rfl) (fs' := [iV (0), iV (-1), iV (0), rV g (1 + 1 + 0), iV (0), iV (0), iV (0), iV (0), .int 0]) rfl dX2_init_45 (?_ : Pt 48 _ _ _ _)
  refine c_aload A 0 dX2_init_48 rfl (?_ : Pt 49 _ _ _ _)
  refine c_iconst A dX2_init_49 (?_ : Pt 50 _ _ _ _)
  refine k_put A (j := 8) fl_X2_37 fp_2_8 (Nat.le_of_ble_eq_true rfl) (fs' := [iV (0), iV (-1), iV (0), rV g (1 + 1 + 0), iV (0), iV (0), iV (0), iV (0), iV (0)]) rfl dX2_init_50 (?_ : Pt 53 _ _ _ _)
  exact c_ret A rfl dX2_init_53 (he _ (fun k _ => cN_fin (by rw [cE_o (c := 2) hm]; rfl) k))
