section RULES3
variable {g : GT} {cc : ByteArray} {own : String} {d nL : Nat} {rt : Option FieldType} {Pt : Nat → List (Nat × Value) → List Value → Hp → Prop} {En : Option Value → Hp → Prop} {pc : Nat} {L : List (Nat × Value)} {st : List Value} {h : Hp}
/-! the end of a method -/
theorem s_iret (A : Amb g cc own d nL rt Pt En) {z : Int} {ty : FieldType} (hrt : rt = some ty) (hn : narrow ty (iV z) = iV z) (hdg : decode cc pc = .ok (.ireturn, 1)) (he : En (some (iV z)) h) : Pt pc L [iV z] h := by
  obtain ⟨p, e, R, s, m, args, below, meth, cd, nc, ns, Q, ⟨hx, hb, hml, hown, hts⟩, hK, hR, hret, rfl⟩ := A
  intro ls H locs hl hP hS
  exact hret pc ls H locs h (some (iV z)) he (Or.inl ⟨_, ty, rfl, hrt, hn, hdg⟩) hP hS
theorem s_lret (A : Amb g cc own d nL rt Pt En) {z : Int} (hrt : rt = some .long) (hdg : decode cc pc = .ok (.lreturn, 1)) (he : En (some (lV z)) h) : Pt pc L [lV z] h := by
  obtain ⟨p, e, R, s, m, args, below, meth, cd, nc, ns, Q, ⟨hx, hb, hml, hown, hts⟩, hK, hR, hret, rfl⟩ := A
  intro ls H locs hl hP hS
  exact hret pc ls H locs h (some (lV z)) he (Or.inr (Or.inl ⟨_, rfl, hrt, hdg⟩)) hP hS
theorem s_aret (A : Amb g cc own d nL rt Pt En) {k : Nat} {n : String} (hrt : rt = some (.object n)) (hdg : decode cc pc = .ok (.areturn, 1)) (he : En (some (rV g k)) h) : Pt pc L [rV g k] h := by
  obtain ⟨p, e, R, s, m, args, below, meth, cd, nc, ns, Q, ⟨hx, hb, hml, hown, hts⟩, hK, hR, hret, rfl⟩ := A
  intro ls H locs hl hP hS
  exact hret pc ls H locs h (some (rV g k)) he (Or.inr (Or.inr (Or.inl ⟨_, n, rfl, hrt, hdg⟩))) hP hS
theorem s_vret (A : Amb g cc own d nL rt Pt En) (hrt : rt = none) (hdg : decode cc pc = .ok (.return_, 1)) (he : En none h) : Pt pc L [] h := by
  obtain ⟨p, e, R, s, m, args, below, meth, cd, nc, ns, Q, ⟨hx, hb, hml, hown, hts⟩, hK, hR, hret, rfl⟩ := A
  intro ls H locs hl hP hS
  exact hret pc ls H locs h none he (Or.inr (Or.inr (Or.inr ⟨rfl, hrt, hdg⟩))) hP hS
/-! calls -/
def CB (y : MethodName) (cy : ByteArray) (ny : Nat) (ry : Option FieldType) (n : Nat) : Prop := Cond.initialized y.cls ∈ GW ∧ Cond.code y cy ny ry ∈ GW ∧ (y.cls ≠ "java/lang/invoke/MethodHandle" ∧ y.cls ≠ "java/lang/invoke/VarHandle" ∧ (parseMethodDescriptor y.desc).map (fun d => d.parameters.length) = some n) ∧ ny ≤ 40
def CV (y : MethodName) : Prop := Cond.instanceMethod y ∈ GW ∧ Cond.selects y.cls y y ∈ GW
theorem Wd_good {y : MethodName} {cy : ByteArray} {ny : Nat} {ry : Option FieldType} (hc : Cond.code y cy ny ry ∈ GW) : GoodIn GW (Wd y cy ny ry) := by
  intro w hw
  rcases List.mem_cons.mp hw with rfl | h
  · exact ⟨hc, GW_good _ hc⟩
  · exact ⟨h, GW_good _ h⟩
theorem pc_blind (g : GT) (h : Hp) (av : List Value) : FrameBlind (va_Pc av (fun U => Rp g h U.heap ∧ KK g U U.heap)) := by
  intro a U gf mk hp
  exact ⟨hp.1, hp.2.1, KK.same (u := U) hp.2.2 rfl⟩
theorem run_W {p : Program} {e : Env} {R : Room} {s : State} {m : MethodId} {args : Array Value} {below : List Frame} {meth : Method} {c : Code} {H H0 : Heap} {locs : List Loc} {cells slots : Nat} {Q : State → Prop} {ls : Array Slot} {rest : List Value} {r : Option Value} {h' : Hp} {l : Launch}
    (hr : va_Run p l e R s m args below meth c H locs cells slots 0 0 (F0 m pc ls st) rest (fun st0 oc t => oc = .returned r ∧ Rp g h' t.heap ∧ va_F (gF g) st0 t) (gF g)) (hS : va_S (gF g) H0 H locs)
    (kk : ∀ (H1 : Heap) (locs1 : List Loc), Rp g h' H1 → va_S (gF g) H0 H1 locs1 → W p l e R s m args below meth c H1 locs1 cells slots Q (F0 m (pc + 3) ls (r.toList ++ rest))) : W p l e R s m args below meth c H locs cells slots Q (F0 m pc ls st) := by
  intro T hT X
  obtain ⟨v, st₀, t, T', L, h0, X', hL, e1, e2, ⟨hv, hp, hz, hk⟩, stp⟩ := hr T hT X
  cases hv
  rw [h0] at hz hk
  obtain ⟨t2, a1, b1⟩ := kk T'.heap (locs ++ L) (by rw [e1]; exact hp)
    ⟨Nat.le_trans hS.1 (by rw [e1]; exact hz), fun q h1 h2 => by rw [e1, hk q (Nat.lt_of_lt_of_le h1 hS.1) h2]; exact hS.2.1 q h1 h2, fun q hq => by
      rcases List.mem_append.mp hq with h | h
      · exact hS.2.2 q h
      · exact hL q h⟩ T' rfl X'
  exact ⟨t2, stp t2 a1, b1⟩
theorem s_callV (A : Amb g cc own (d + 1) nL rt Pt En) {y : MethodName} {cy : ByteArray} {ny idx k n c d' : Nat} {ry : Option FieldType} {As rest : List Value} {r : Option Value} {h' : Hp} (hB : CB y cy ny ry As.length) (hV : CV y) (hl0 : Cond.methodLink own idx y ∈ GW) (hk : sh k = (c + 10, n)) (hn : c < 50) (hcl : ∃ (T : u_T) (N : Nat), vwCl[c]? = some (y.cls, T, N)) (hd : d' ≤ d) (hst : st = As.reverse ++ rV g k :: rest) (hcat : (rest.map fun v => v.category).sum ≤ 8) (hdg : decode cc pc = .ok (.invokevirtual idx, 3))
    (hM : Lm g d' y cy ny ry (rV g k :: As) h r h') (kk : Pt (pc + 3) L (r.toList ++ rest) h') : Pt pc L st h := by
  obtain ⟨p, e, R, s, m, args, below, meth, cd, nc, ns, Q, ⟨hx, hb, hml, hown, hts⟩, hK, hR, hret, rfl⟩ := A
  intro ls H locs hl hP hS
  obtain ⟨T, N, hcl⟩ := hcl
  have he := wo_at g h (sh_lt hk (by omega))
  rw [cE_o hk] at he
  have hrv := va_recv hK.1 hP hcl he
  have cb : CallB R s args own idx y cy ny ry (Wd y cy ny ry) (rmd d') 0 0 As.length := callB_of As.length hts (Wd_good hB.2.1) rfl rfl rfl (hts _ hB.1) (hts _ hl0) hB.2.2.1 ⟨by show d' + 1 ≤ _; omega, by have := hB.2.2.2; show 8 + (ny + 11) + 64 * d' ≤ _; omega⟩
  have run := va_runV (e := e) (below := below) (meth := meth) (locs := locs) (cells := nc) (slots := ns) (b := gb g + k) (As := As) (rest := rest) (g := F0 m pc ls st) (C := y.cls) ⟨hx, hb, hml, hown, hts⟩ hM ⟨cb, hts _ hV.1, hts _ hV.2⟩ ⟨pc_blind g h _, hrv, fun U hU hW => ⟨rfl, by rw [hU]; exact hP, hK.warm hW (fun a h1 h2 => by rw [hU]; exact hS.2.1 a h1 h2)⟩⟩ rfl rfl hl.1 hst (lv_room hcat) hdg ⟨by omega, by omega⟩
  exact run_W run hS (fun H1 locs1 hP1 hS1 => kk ls H1 locs1 hl hP1 hS1)
theorem s_callS (A : Amb g cc own (d + 1) nL rt Pt En) {y : MethodName} {cy : ByteArray} {ny idx d' : Nat} {ry : Option FieldType} {As rest : List Value} {r : Option Value} {h' : Hp} (hB : CB y cy ny ry As.length) (hV : Cond.static y ∈ GW) (hl0 : Cond.methodLink own idx y ∈ GW) (hd : d' ≤ d) (hst : st = As.reverse ++ rest) (hcat : (rest.map fun v => v.category).sum ≤ 8) (hdg : decode cc pc = .ok (.invokestatic idx, 3))
    (hM : Lm g d' y cy ny ry As h r h') (kk : Pt (pc + 3) L (r.toList ++ rest) h') : Pt pc L st h := by
  obtain ⟨p, e, R, s, m, args, below, meth, cd, nc, ns, Q, ⟨hx, hb, hml, hown, hts⟩, hK, hR, hret, rfl⟩ := A
  intro ls H locs hl hP hS
  have cb : CallB R s args own idx y cy ny ry (Wd y cy ny ry) (rmd d') 0 0 As.length := callB_of As.length hts (Wd_good hB.2.1) rfl rfl rfl (hts _ hB.1) (hts _ hl0) hB.2.2.1 ⟨by show d' + 1 ≤ _; omega, by have := hB.2.2.2; show 8 + (ny + 11) + 64 * d' ≤ _; omega⟩
  have run := va_runS (e := e) (below := below) (meth := meth) (locs := locs) (cells := nc) (slots := ns) (As := As) (rest := rest) (g := F0 m pc ls st) ⟨hx, hb, hml, hown, hts⟩ hM ⟨cb, hts _ hV⟩ ⟨pc_blind g h _, fun U hU hW => ⟨rfl, by rw [hU]; exact hP, hK.warm hW (fun a h1 h2 => by rw [hU]; exact hS.2.1 a h1 h2)⟩⟩ rfl rfl hl.1 hst (lv_room hcat) hdg ⟨by omega, by omega⟩
  exact run_W run hS (fun H1 locs1 hP1 hS1 => kk ls H1 locs1 hl hP1 hS1)
theorem s_callN (A : Amb g cc own (d + 1) nL rt Pt En) {y : MethodName} {cy : ByteArray} {ny idx d' : Nat} {ry : Option FieldType} {As rest : List Value} {r : Option Value} {h' : Hp} (hB : CB y cy ny ry As.length) (hV : Cond.static y ∈ GW) (hl0 : (own, idx, y) ∈ NW) (hd : d' ≤ d) (hst : st = As.reverse ++ rest) (hcat : (rest.map fun v => v.category).sum ≤ 8) (hdg : decode cc pc = .ok (.invokestatic idx, 3))
    (hM : Lm g d' y cy ny ry As h r h') (kk : Pt (pc + 3) L (r.toList ++ rest) h') : Pt pc L st h := by
  obtain ⟨p, e, R, s, m, args, below, meth, cd, nc, ns, Q, ⟨hx, hb, hml, hown, hts⟩, hK, hR, hret, rfl⟩ := A
  intro ls H locs hl hP hS
  have cb : va_CN R s args own idx y "SpiteField" cy ny ry (Wd y cy ny ry) (rmd d') 0 0 As.length := va_cnB As.length hts (Wd_good hB.2.1) rfl rfl rfl (hK.2.1 _ hl0) (hts _ hB.1) hB.2.2.1 ⟨by show d' + 1 ≤ _; omega, by have := hB.2.2.2; show 8 + (ny + 11) + 64 * d' ≤ _; omega⟩
  have run := va_runSN (e := e) (below := below) (meth := meth) (locs := locs) (cells := nc) (slots := ns) (As := As) (rest := rest) (g := F0 m pc ls st) ⟨hx, hb, hml, hown, hts⟩ hM ⟨cb, hts _ hV, trivial⟩ ⟨pc_blind g h _, fun U hU hW => ⟨rfl, by rw [hU]; exact hP, hK.warm hW (fun a h1 h2 => by rw [hU]; exact hS.2.1 a h1 h2)⟩⟩ rfl rfl hl.1 hst (lv_room hcat) hdg ⟨by omega, by omega⟩
  exact run_W run hS (fun H1 locs1 hP1 hS1 => kk ls H1 locs1 hl hP1 hS1)
/-! the library's own -/
def imin (a b : Int) : Int := if wr b < wr a then b else a
def imax (a b : Int) : Int := if wr a < wr b then b else a
theorem imin_eq (a b : Int) : Int32.ofInt (imin a b) = if Int32.ofInt b < Int32.ofInt a then Int32.ofInt b else Int32.ofInt a := by
  unfold imin
  by_cases q : wr b < wr a
  · rw [if_pos q, if_pos ((z_lt b a).mpr q)]
  · rw [if_neg q, if_neg (fun w => q ((z_lt b a).mp w))]
theorem imax_eq (a b : Int) : Int32.ofInt (imax a b) = if Int32.ofInt a < Int32.ofInt b then Int32.ofInt b else Int32.ofInt a := by
  unfold imax
  by_cases q : wr a < wr b
  · rw [if_pos q, if_pos ((z_lt a b).mpr q)]
  · rw [if_neg q, if_neg (fun w => q ((z_lt a b).mp w))]
def Lk (own : String) (idx : Nat) (y : MethodName) : Prop := Cond.methodLink own idx y ∈ GW
def MinW : Prop := Cond.static Lib.Math.min.name ∈ GW ∧ Cond.initialized "java/lang/Math" ∈ GW ∧ Cond.code Lib.Math.min.name Lib.Math.min.code 2 (some .int) ∈ GW
def MaxW : Prop := Cond.static Lib.Math.max.name ∈ GW ∧ Cond.initialized "java/lang/Math" ∈ GW ∧ Cond.code Lib.Math.max.name Lib.Math.max.code 2 (some .int) ∈ GW
theorem s_min (A : Amb g cc own (d + 1) nL rt Pt En) {idx : Nat} {a b : Int} (hM : MinW) (hl0 : Cond.methodLink own idx Lib.Math.min.name ∈ GW) (hcat : (st.map fun v => v.category).sum ≤ 8) (hdg : decode cc pc = .ok (.invokestatic idx, 3)) (kk : Pt (pc + 3) L (iV (imin a b) :: st) h) : Pt pc L (iV b :: iV a :: st) h := by
  obtain ⟨p, e, R, s, m, args, below, meth, cd, nc, ns, Q, ⟨hx, hb, hml, hown, hts⟩, hK, hR, hret, rfl⟩ := A
  intro ls H locs hl hP hS
  refine va_mmin hx hb (hml.trans hl.1.symm) hown (hts _ hl0) (hts _ hM.1) (hts _ hM.2.1) (hts _ hM.2.2) (by omega) (by omega) hR.2.2.1 hR.2.2.2 hdg ?_
  rw [← imin_eq]
  exact kk ls H locs hl hP hS
theorem s_max (A : Amb g cc own (d + 1) nL rt Pt En) {idx : Nat} {a b : Int} (hM : MaxW) (hl0 : Cond.methodLink own idx Lib.Math.max.name ∈ GW) (hcat : (st.map fun v => v.category).sum ≤ 8) (hdg : decode cc pc = .ok (.invokestatic idx, 3)) (kk : Pt (pc + 3) L (iV (imax a b) :: st) h) : Pt pc L (iV b :: iV a :: st) h := by
  obtain ⟨p, e, R, s, m, args, below, meth, cd, nc, ns, Q, ⟨hx, hb, hml, hown, hts⟩, hK, hR, hret, rfl⟩ := A
  intro ls H locs hl hP hS
  refine va_mmax hx hb (hml.trans hl.1.symm) hown (hts _ hl0) (hts _ hM.1) (hts _ hM.2.1) (hts _ hM.2.2) (by omega) (by omega) hR.2.2.1 hR.2.2.2 hdg ?_
  rw [← imax_eq]
  exact kk ls H locs hl hP hS
/-- the heap behind an arraycopy from cell k0 (at sp) to cell k1 (at dp), n places -/
def cpy (h : Hp) (k0 k1 : Nat) (sp dp n : Int) : Hp := fun a j => if a = k1 ∧ dp ≤ j ∧ j < dp + n then h k0 (sp + (j - dp)) else h a j
theorem hset_cpy (h : Hp) (k0 k1 : Nat) (sp dp n : Int) : hset h k1 (fun j => if dp ≤ j ∧ j < dp + n then h k0 (sp + (j - dp)) else h k1 j) = cpy h k0 k1 sp dp n := by
  funext a j
  simp only [hset, cpy]
  by_cases e : a = k1
  · subst e; simp
  · simp [e]
theorem cpy_eq {α : Type} (F : Int → α) (f g0 : Int → Int) {sp dp n : Int} (h1 : 0 ≤ wr sp) (h2 : 0 ≤ wr dp) (h3 : 0 ≤ wr n) : va_cpy (fun j : Nat => F (f (j : Int))) (fun j : Nat => F (g0 (j : Int))) (Int32.ofInt sp).toNatClampNeg (Int32.ofInt dp).toNatClampNeg (Int32.ofInt n).toNatClampNeg = fun j : Nat => F ((fun q => if wr dp ≤ q ∧ q < wr dp + wr n then f (wr sp + (q - wr dp)) else g0 q) (j : Int)) := by
  funext q
  have e1 := clamp_wr h1
  have e2 := clamp_wr h2
  have e3 := clamp_wr h3
  simp only [va_cpy]
  by_cases c : (Int32.ofInt dp).toNatClampNeg ≤ q ∧ q < (Int32.ofInt dp).toNatClampNeg + (Int32.ofInt n).toNatClampNeg
  · rw [if_pos c, if_pos (by omega)]
    congr 2
    omega
  · rw [if_neg c, if_neg (by omega)]
def CopyW : Prop := Cond.native arraycopyName ∈ GW ∧ Cond.static arraycopyName ∈ GW ∧ Cond.initialized "java/lang/System" ∈ GW
theorem nneg {z : Int} (h : 0 ≤ wr z) : ¬ Int32.ofInt z < 0 := fun q => by
  have := (z_lt z 0).mp q
  have z0 := z_0
  omega
theorem s_copyi (A : Amb g cc own (d + 1) nL rt Pt En) {idx k0 k1 n0 n1 : Nat} {sp dp n : Int} (hM : CopyW) (hl0 : Cond.methodLink own idx arraycopyName ∈ GW) (hk0 : sh k0 = (0, n0)) (hk1 : sh k1 = (0, n1)) (hc : 0 ≤ wr sp ∧ 0 ≤ wr dp ∧ 0 ≤ wr n ∧ wr sp + wr n ≤ n0 ∧ wr dp + wr n ≤ n1) (hcat : (st.map fun v => v.category).sum ≤ 8) (hdg : decode cc pc = .ok (.invokestatic idx, 3)) (kk : Pt (pc + 3) L st (cpy h k0 k1 (wr sp) (wr dp) (wr n))) : Pt pc L (iV n :: iV dp :: rV g k1 :: iV sp :: rV g k0 :: st) h := by
  obtain ⟨p, e, R, s, m, args, below, meth, cd, nc, ns, Q, ⟨hx, hb, hml, hown, hts⟩, hK, hR, hret, rfl⟩ := A
  intro ls H locs hl hP hS
  obtain ⟨c1, c2, c3, c4, c5⟩ := hc
  have hlt1 := sh_lt hk1 (by omega)
  have he0 := wo_at g h (sh_lt hk0 (by omega))
  have he1 := wo_at g h hlt1
  rw [cE_i hk0] at he0
  rw [cE_i hk1] at he1
  have e1 := clamp_wr c1
  have e2 := clamp_wr c2
  have e3 := clamp_wr c3
  have hw : nativeFrameWords "java/lang/System" "arraycopy" 5 + 11 ≤ 50 := by decide +kernel
  refine va_copyi hx hb (hml.trans hl.1.symm) hown (hts _ hl0) (hts _ hM.1) (hts _ hM.2.1) (hts _ hM.2.2) hK.1 hP (wo_D g h) hS k0 k1 0 0 he0 he1 rfl rfl rfl (nneg c1) (nneg c2) (nneg c3) (by omega) (by omega) (fun _ _ => rfl) (by omega) (by omega) hdg ?_
  intro H1 locs1 hP1 _ hS1
  refine kk ls H1 locs1 hl ?_ hS1
  rw [cpy_eq Int32.ofInt (h k0) (h k1) c1 c2 c3, ← cE_i (g := g) hk1 (fun q => if wr dp ≤ q ∧ q < wr dp + wr n then h k0 (wr sp + (q - wr dp)) else h k1 q), wo_set g h hlt1, hset_cpy] at hP1
  exact hP1
theorem s_copyl (A : Amb g cc own (d + 1) nL rt Pt En) {idx k0 k1 n0 n1 : Nat} {sp dp n : Int} (hM : CopyW) (hl0 : Cond.methodLink own idx arraycopyName ∈ GW) (hk0 : sh k0 = (1, n0)) (hk1 : sh k1 = (1, n1)) (hc : 0 ≤ wr sp ∧ 0 ≤ wr dp ∧ 0 ≤ wr n ∧ wr sp + wr n ≤ n0 ∧ wr dp + wr n ≤ n1) (hcat : (st.map fun v => v.category).sum ≤ 8) (hdg : decode cc pc = .ok (.invokestatic idx, 3)) (kk : Pt (pc + 3) L st (cpy h k0 k1 (wr sp) (wr dp) (wr n))) : Pt pc L (iV n :: iV dp :: rV g k1 :: iV sp :: rV g k0 :: st) h := by
  obtain ⟨p, e, R, s, m, args, below, meth, cd, nc, ns, Q, ⟨hx, hb, hml, hown, hts⟩, hK, hR, hret, rfl⟩ := A
  intro ls H locs hl hP hS
  obtain ⟨c1, c2, c3, c4, c5⟩ := hc
  have hlt1 := sh_lt hk1 (by omega)
  have he0 := wo_at g h (sh_lt hk0 (by omega))
  have he1 := wo_at g h hlt1
  rw [cE_l hk0] at he0
  rw [cE_l hk1] at he1
  have e1 := clamp_wr c1
  have e2 := clamp_wr c2
  have e3 := clamp_wr c3
  have hw : nativeFrameWords "java/lang/System" "arraycopy" 5 + 11 ≤ 50 := by decide +kernel
  refine va_copyl hx hb (hml.trans hl.1.symm) hown (hts _ hl0) (hts _ hM.1) (hts _ hM.2.1) (hts _ hM.2.2) hK.1 hP (wo_D g h) hS k0 k1 1 1 he0 he1 rfl rfl rfl (nneg c1) (nneg c2) (nneg c3) (by omega) (by omega) (fun _ _ => rfl) (by omega) (by omega) hdg ?_
  intro H1 locs1 hP1 _ hS1
  refine kk ls H1 locs1 hl ?_ hS1
  rw [cpy_eq Int64.ofInt (h k0) (h k1) c1 c2 c3, ← cE_l (g := g) hk1 (fun q => if wr dp ≤ q ∧ q < wr dp + wr n then h k0 (wr sp + (q - wr dp)) else h k1 q), wo_set g h hlt1, hset_cpy] at hP1
  exact hP1
end RULES3
