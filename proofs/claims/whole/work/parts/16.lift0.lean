def FU : Nat := 100000
def lt {α β : Type} (x : α) (f : α → β) : β := f x
theorem lt_eq {α β : Type} (x : α) (f : α → β) : lt x f = f x := rfl
/-! shapes -/
theorem shAll (t n j t' n' : Nat) (h : (List.range NC).all (fun o => decide (sh o = (t, n) → sh (o + j) = (t', n'))) = true) (ht : t ≠ 99) {o : Nat} (ho : sh o = (t, n)) : sh (o + j) = (t', n') := by
  have h1 := List.all_eq_true.mp h o (List.mem_range.mpr (sh_lt ho ht))
  exact of_decide_eq_true h1 ho
theorem sh0_1 {o : Nat} (ho : sh o = (10, 13)) : sh (o + 1) = (0, 30) := shAll 10 13 1 0 30 (by decide +kernel) (by decide) ho
theorem sh0_2 {o : Nat} (ho : sh o = (10, 13)) : sh (o + 2) = (0, 40) := shAll 10 13 2 0 40 (by decide +kernel) (by decide) ho
theorem sh0_3 {o : Nat} (ho : sh o = (10, 13)) : sh (o + 3) = (0, 40) := shAll 10 13 3 0 40 (by decide +kernel) (by decide) ho
theorem sh0_4 {o : Nat} (ho : sh o = (10, 13)) : sh (o + 4) = (0, 40) := shAll 10 13 4 0 40 (by decide +kernel) (by decide) ho
theorem sh0_5 {o : Nat} (ho : sh o = (10, 13)) : sh (o + 5) = (0, 40) := shAll 10 13 5 0 40 (by decide +kernel) (by decide) ho
theorem sh3_1 {o : Nat} (ho : sh o = (13, 10)) : sh (o + 1) = (0, 30) := shAll 13 10 1 0 30 (by decide +kernel) (by decide) ho
theorem sh3_2 {o : Nat} (ho : sh o = (13, 10)) : sh (o + 2) = (0, 6) := shAll 13 10 2 0 6 (by decide +kernel) (by decide) ho
theorem sh3_3 {o : Nat} (ho : sh o = (13, 10)) : sh (o + 3) = (0, 6) := shAll 13 10 3 0 6 (by decide +kernel) (by decide) ho
theorem sh3_4 {o : Nat} (ho : sh o = (13, 10)) : sh (o + 4) = (0, 6) := shAll 13 10 4 0 6 (by decide +kernel) (by decide) ho
theorem sh3_5 {o : Nat} (ho : sh o = (13, 10)) : sh (o + 5) = (0, 6) := shAll 13 10 5 0 6 (by decide +kernel) (by decide) ho
theorem sh3_6 {o : Nat} (ho : sh o = (13, 10)) : sh (o + 6) = (0, 6) := shAll 13 10 6 0 6 (by decide +kernel) (by decide) ho
theorem sh3_7 {o : Nat} (ho : sh o = (13, 10)) : sh (o + 7) = (0, 6) := shAll 13 10 7 0 6 (by decide +kernel) (by decide) ho
theorem sh4_1 {o : Nat} (ho : sh o = (14, 4)) : sh (o + 1) = (1, 60) := shAll 14 4 1 1 60 (by decide +kernel) (by decide) ho
theorem sh_tab (n b st t m : Nat) (h : (List.range n).all (fun i => decide (sh (b + st * i) = (t, m))) = true) {i : Int} (hi : 0 ≤ i ∧ i < n) : sh (b + st * i.toNat) = (t, m) := by
  have h1 := List.all_eq_true.mp h i.toNat (List.mem_range.mpr (by omega))
  exact of_decide_eq_true h1
theorem sh_a4 {i : Int} (hi : 0 ≤ i ∧ i < 3) : sh (37 + 6 * i.toNat) = (10, 13) := sh_tab 3 37 6 10 13 (by decide +kernel) hi
theorem sh_a5 {i : Int} (hi : 0 ≤ i ∧ i < 4) : sh (55 + 2 * i.toNat) = (14, 4) := sh_tab 4 55 2 14 4 (by decide +kernel) hi
theorem sh_a6 {i : Int} (hi : 0 ≤ i ∧ i < 13) : sh (63 + 8 * i.toNat) = (13, 10) := sh_tab 13 63 8 13 10 (by decide +kernel) hi
section LIFT0
variable {g : GT} {cc : ByteArray} {own : String} {d nL : Nat} {rt : Option FieldType} {Pt : Nat → List (Nat × Value) → List Value → Hp → Prop} {En : Option Value → Hp → Prop} {pc : Nat} {L : List (Nat × Value)} {st : List Value} {h : Hp} {α : Type} {E : α → Prop} {f : Hp → Option α}
theorem Lf_if {X Y : Option α} {P : Prop} {c : Prop} [Decidable c] (k1 : c → Lf E X P) (k2 : ¬ c → Lf E Y P) : Lf E (if c then X else Y) P := Lf_cond (fun a b => Classical.byCases a b) k1 k2
theorem L_puti (A : Amb g cc own d nL rt Pt En) {k n c j idx : Nat} {x : Int} (hk : sh k = (c + 10, n)) (hf : FL own idx c j) (hp : FP c j .int) (ht : (fdT c)[j]? = some (0, 0)) (hn : c < 50) (hdg : decode cc pc = .ok (.putfield idx, 3)) (kk : ∀ h', Lf E (f h') (Pt (pc + 3) L st h')) : Lf E (lt (up h k (j : Int) x) f) (Pt pc L (iV x :: rV g k :: st) h) := Lf_step (s_puti A hk hf hp ht hn hdg) (kk _)
theorem L_putl (A : Amb g cc own d nL rt Pt En) {k n c j idx : Nat} {x : Int} (hk : sh k = (c + 10, n)) (hf : FL own idx c j) (hp : FP c j .long) (ht : (fdT c)[j]? = some (1, 0)) (hn : c < 50) (hdg : decode cc pc = .ok (.putfield idx, 3)) (kk : ∀ h', Lf E (f h') (Pt (pc + 3) L st h')) : Lf E (lt (up h k (j : Int) x) f) (Pt pc L (lV x :: rV g k :: st) h) := Lf_step (s_putl A hk hf hp ht hn hdg) (kk _)
theorem L_putz (A : Amb g cc own d nL rt Pt En) {k n c j idx : Nat} {x : Int} (hk : sh k = (c + 10, n)) (hf : FL own idx c j) (hp : FP c j .boolean) (ht : (fdT c)[j]? = some (0, 0)) (hn : c < 50) (h01 : x = 0 ∨ x = 1) (hdg : decode cc pc = .ok (.putfield idx, 3)) (kk : ∀ h', Lf E (f h') (Pt (pc + 3) L st h')) : Lf E (lt (up h k (j : Int) x) f) (Pt pc L (iV x :: rV g k :: st) h) := Lf_step (s_putz A hk hf hp ht hn h01 hdg) (kk _)
theorem L_iast (A : Amb g cc own d nL rt Pt En) {k n : Nat} {i x : Int} (hk : sh k = (0, n)) (hi : 0 ≤ wr i ∧ wr i < n) (hdg : decode cc pc = .ok (.iastore, 1)) (kk : ∀ h', Lf E (f h') (Pt (pc + 1) L st h')) : Lf E (lt (up h k (wr i) x) f) (Pt pc L (iV x :: iV i :: rV g k :: st) h) := Lf_step (s_iast A hk hi hdg) (kk _)
theorem L_last (A : Amb g cc own d nL rt Pt En) {k n : Nat} {i x : Int} (hk : sh k = (1, n)) (hi : 0 ≤ wr i ∧ wr i < n) (hdg : decode cc pc = .ok (.lastore, 1)) (kk : ∀ h', Lf E (f h') (Pt (pc + 1) L st h')) : Lf E (lt (up h k (wr i) x) f) (Pt pc L (lV x :: iV i :: rV g k :: st) h) := Lf_step (s_last A hk hi hdg) (kk _)
theorem L_bast (A : Amb g cc own d nL rt Pt En) {k n : Nat} {i x : Int} (hk : sh k = (2, n)) (hi : 0 ≤ wr i ∧ wr i < n) (hdg : decode cc pc = .ok (.bastore, 1)) (kk : ∀ h', Lf E (f h') (Pt (pc + 1) L st h')) : Lf E (lt (up h k (wr i) (w8 x)) f) (Pt pc L (iV x :: iV i :: rV g k :: st) h) := Lf_step (s_bast A hk hi hdg) (kk _)
theorem L_zast (A : Amb g cc own d nL rt Pt En) {k n : Nat} {i x : Int} (hk : sh k = (3, n)) (hi : 0 ≤ wr i ∧ wr i < n) (h01 : x = 0 ∨ x = 1) (hdg : decode cc pc = .ok (.bastore, 1)) (kk : ∀ h', Lf E (f h') (Pt (pc + 1) L st h')) : Lf E (lt (up h k (wr i) x) f) (Pt pc L (iV x :: iV i :: rV g k :: st) h) := Lf_step (s_zast A hk hi h01 hdg) (kk _)
theorem L_copyi (A : Amb g cc own (d + 1) nL rt Pt En) {idx k0 k1 n0 n1 : Nat} {sp dp n : Int} (hM : CopyW) (hl0 : Cond.methodLink own idx arraycopyName ∈ GW) (hk0 : sh k0 = (0, n0)) (hk1 : sh k1 = (0, n1)) (hc : 0 ≤ wr sp ∧ 0 ≤ wr dp ∧ 0 ≤ wr n ∧ wr sp + wr n ≤ n0 ∧ wr dp + wr n ≤ n1) (hcat : (st.map fun v => v.category).sum ≤ 8) (hdg : decode cc pc = .ok (.invokestatic idx, 3)) (kk : ∀ h', Lf E (f h') (Pt (pc + 3) L st h')) : Lf E (lt (cpy h k0 k1 (wr sp) (wr dp) (wr n)) f) (Pt pc L (iV n :: iV dp :: rV g k1 :: iV sp :: rV g k0 :: st) h) := Lf_step (s_copyi A hM hl0 hk0 hk1 hc hcat hdg) (kk _)
theorem L_copyl (A : Amb g cc own (d + 1) nL rt Pt En) {idx k0 k1 n0 n1 : Nat} {sp dp n : Int} (hM : CopyW) (hl0 : Cond.methodLink own idx arraycopyName ∈ GW) (hk0 : sh k0 = (1, n0)) (hk1 : sh k1 = (1, n1)) (hc : 0 ≤ wr sp ∧ 0 ≤ wr dp ∧ 0 ≤ wr n ∧ wr sp + wr n ≤ n0 ∧ wr dp + wr n ≤ n1) (hcat : (st.map fun v => v.category).sum ≤ 8) (hdg : decode cc pc = .ok (.invokestatic idx, 3)) (kk : ∀ h', Lf E (f h') (Pt (pc + 3) L st h')) : Lf E (lt (cpy h k0 k1 (wr sp) (wr dp) (wr n)) f) (Pt pc L (iV n :: iV dp :: rV g k1 :: iV sp :: rV g k0 :: st) h) := Lf_step (s_copyl A hM hl0 hk0 hk1 hc hcat hdg) (kk _)
theorem s_getiz (A : Amb g cc own d nL rt Pt En) {k n c j idx : Nat} {z : Int} (hz : ((j : Nat) : Int) = z) (hk : sh k = (c + 10, n)) (hf : FL own idx c j) (ht : (fdT c)[j]? = some (0, 0)) (hn : c < 50) (hdg : decode cc pc = .ok (.getfield idx, 3)) (kk : Pt (pc + 3) L (iV (h k z) :: st) h) : Pt pc L (rV g k :: st) h := by
  subst hz
  exact s_geti A hk hf ht hn hdg kk
theorem s_getlz (A : Amb g cc own d nL rt Pt En) {k n c j idx : Nat} {z : Int} (hz : ((j : Nat) : Int) = z) (hk : sh k = (c + 10, n)) (hf : FL own idx c j) (ht : (fdT c)[j]? = some (1, 0)) (hn : c < 50) (hdg : decode cc pc = .ok (.getfield idx, 3)) (kk : Pt (pc + 3) L (lV (h k z) :: st) h) : Pt pc L (rV g k :: st) h := by
  subst hz
  exact s_getl A hk hf ht hn hdg kk
theorem s_ialdc (A : Amb g cc own d nL rt Pt En) {k n : Nat} {i j : Int} (hk : sh k = (0, n)) (hj : wr i = j) (hi : 0 ≤ j ∧ j < n) (hdg : decode cc pc = .ok (.iaload, 1)) (kk : Pt (pc + 1) L (iV (h k j) :: st) h) : Pt pc L (iV i :: rV g k :: st) h := by
  subst hj
  exact s_iald A hk hi hdg kk
theorem s_laldc (A : Amb g cc own d nL rt Pt En) {k n : Nat} {i j : Int} (hk : sh k = (1, n)) (hj : wr i = j) (hi : 0 ≤ j ∧ j < n) (hdg : decode cc pc = .ok (.laload, 1)) (kk : Pt (pc + 1) L (lV (h k j) :: st) h) : Pt pc L (iV i :: rV g k :: st) h := by
  subst hj
  exact s_lald A hk hi hdg kk
theorem s_tabO (A : Amb g cc own d nL rt Pt En) {dflt lo hi : Int} {offs : Array Int} {len tgt : Nat} {z : Int} (hdg : decode cc pc = .ok (.tableswitch dflt lo hi offs, len)) (hz : wr z < lo ∨ hi < wr z) (ht : (pc : Int) + dflt = (tgt : Int)) (kk : Pt tgt L st h) : Pt pc L (iV z :: st) h := by
  obtain ⟨p, e, R, s, m, args, below, meth, c, nc, ns, Q, ⟨hx, hb, hml, hown, hts⟩, hK, hR, hret, rfl⟩ := A
  intro ls H locs hl hP hS
  exact lv_tableOut hx hb hdg hz ht (kk ls H locs hl hP hS)
theorem s_tabI (A : Amb g cc own d nL rt Pt En) {dflt lo hi : Int} {offs : Array Int} {len tgt : Nat} {z v off : Int} (hdg : decode cc pc = .ok (.tableswitch dflt lo hi offs, len)) (hz : wr z = v) (h1 : ¬ v < lo) (h2 : ¬ hi < v) (ho : offs[(v - lo).toNat]? = some off) (ht : (pc : Int) + off = (tgt : Int)) (kk : Pt tgt L st h) : Pt pc L (iV z :: st) h := by
  subst hz
  obtain ⟨p, e, R, s, m, args, below, meth, c, nc, ns, Q, ⟨hx, hb, hml, hown, hts⟩, hK, hR, hret, rfl⟩ := A
  intro ls H locs hl hP hS
  exact lv_tableIn hx hb hdg h1 h2 ho ht (kk ls H locs hl hP hS)
end LIFT0
