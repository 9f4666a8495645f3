/-! making: the world as it grows; cell k is c k, the next new one is n -/
abbrev CF : Type := Nat → va_E
def wq (g : GT) (n : Nat) (c : CF) : va_W := (List.range n).map (fun k => (gb g + k, c k))
def cset (c : CF) (k : Nat) (e : va_E) : CF := fun a => if a = k then e else c a
theorem wq_at (g : GT) {n : Nat} (c : CF) {k : Nat} (hk : k < n) : (wq g n c)[k]? = some (gb g + k, c k) := by
  simp [wq, List.getElem?_range hk]
theorem wq_len (g : GT) (n : Nat) (c : CF) : (wq g n c).length = n := by simp [wq]
theorem wq_lt {g : GT} {n : Nat} {c : CF} {k : Nat} {q : Nat × va_E} (hq : (wq g n c)[k]? = some q) : k < n := by
  have := (List.getElem?_eq_some_iff.mp hq).1
  rwa [wq_len] at this
theorem wq_D (g : GT) (n : Nat) (c : CF) : va_D (gF g) (wq g n c) := by
  refine ⟨fun i j p q hi hj hpq => ?_, fun k q hk => ?_⟩
  · have h1 := wq_lt hi
    have h2 := wq_lt hj
    rw [wq_at g c h1] at hi
    rw [wq_at g c h2] at hj
    cases hi; cases hj
    dsimp only at hpq
    omega
  · have h1 := wq_lt hk
    rw [wq_at g c h1] at hk
    cases hk
    show gb g ≤ gb g + k
    omega
theorem wq_set (g : GT) {n : Nat} (c : CF) {k : Nat} (hk : k < n) (e : va_E) : (wq g n c).set k (gb g + k, e) = wq g n (cset c k e) := by
  apply List.ext_getElem?
  intro j
  by_cases hj : j < n
  · rw [wq_at g _ hj]
    by_cases q : j = k
    · subst q
      rw [List.getElem?_set_self (by rw [wq_len]; exact hj)]
      simp [cset]
    · rw [List.getElem?_set_ne (fun w => q w.symm), wq_at g c hj]
      simp [cset, q]
  · have h1 : (wq g n (cset c k e))[j]? = none := by rw [List.getElem?_eq_none_iff, wq_len]; omega
    have h2 : ((wq g n c).set k (gb g + k, e))[j]? = none := by rw [List.getElem?_eq_none_iff, List.length_set, wq_len]; omega
    rw [h1, h2]
theorem wq_congr (g : GT) {n : Nat} {c c' : CF} (h : ∀ k, k < n → c k = c' k) : wq g n c = wq g n c' := by
  unfold wq
  apply List.map_congr_left
  intro k hk
  rw [h k (List.mem_range.mp hk)]
theorem wq_push (g : GT) (n : Nat) (c : CF) (e : va_E) : wq g n c ++ [(gb g + n, e)] = wq g (n + 1) (cset c n e) := by
  unfold wq
  rw [List.range_succ, List.map_append]
  congr 1
  · apply List.map_congr_left
    intro k hk
    have := List.mem_range.mp hk
    simp [cset, Nat.ne_of_lt this]
  · simp [cset]
def NWc : List (Nat × MethodName) := [(9, yX2_init), (18, yX0_init), (46, yX3_init), (53, yX1_init), (60, yX5_init), (67, yX6_init), (79, yX4_init)]
def KN (g : GT) (U : State) : Prop := va_K (gD g) vwCl (tysOf g) U ∧ (∀ q ∈ NWc, va_Nw (.methodLinkNest RX7 q.1 q.2 "SpiteField") U) ∧ (va_AO "SpiteField$Land" U ∧ va_AO "SpiteField$Slot" U ∧ va_AO "SpiteField$Season" U)
theorem KN.warm {g : GT} {s U : State} (h : KN g s) (hW : s.WarmedH U.vm) : KN g U := ⟨va_K.moved hW.alike h.1, fun q hq => va_Nw.warmM hW (h.2.1 q hq), va_AO.moved hW.alike h.2.2.1, va_AO.moved hW.alike h.2.2.2.1, va_AO.moved hW.alike h.2.2.2.2⟩
theorem KN.same {g : GT} {u U : State} (h : KN g u) (hv : u.vm = U.vm) : KN g U := ⟨va_K.moved (by rw [hv]; exact Vm.Alike.refl _) h.1, fun q hq => va_Nw.same rfl hv (h.2.1 q hq), va_AO.moved (by rw [hv]; exact Vm.Alike.refl _) h.2.2.1, va_AO.moved (by rw [hv]; exact Vm.Alike.refl _) h.2.2.2.1, va_AO.moved (by rw [hv]; exact Vm.Alike.refl _) h.2.2.2.2⟩
def rmC (d t : Nat) : Room := { frames := d, cells := t, slots := 1000 * t, locals := 64 * d }
def AmbC (ini : Bool) (g : GT) (cc : ByteArray) (own : String) (d nL n0 t : Nat) (Pt : Nat → List (Nat × Value) → List Value → Nat → CF → Prop) (En : CF → Prop) : Prop :=
  ∃ (p : Program) (e : Env) (R : Room) (s : State) (m : MethodId) (args : Array Value) (below : List Frame) (meth : Method) (c : Code) (Q : State → Prop),
    CallFix p m c cc nL s args GW own ∧ KN g s ∧ (ini = true → meth.name = "<init>") ∧ (d ≤ R.frames ∧ 64 * d ≤ R.locals ∧ t ≤ R.cells ∧ 1000 * t ≤ R.slots) ∧ s.heap.size = gb g + n0 ∧
    (∀ (pc : Nat) (ls : Array Slot) (H : Heap) (locs : List Loc) (cf : CF), En cf → decode cc pc = .ok (.return_, 1) → va_P (gD g) vwCl (wq g (n0 + t) cf) H → va_S (gF g) s.heap H locs → W p (gl g) e R s m args below meth c H locs t (1000 * t) Q (F0 m pc ls [])) ∧
    Pt = fun pc L st n cf => ∀ (ls : Array Slot) (H : Heap) (locs : List Loc), lv_has ls nL L → va_P (gD g) vwCl (wq g (n0 + n) cf) H → va_S (gF g) s.heap H locs → W p (gl g) e R s m args below meth c H locs n (1000 * n) Q (F0 m pc ls st)
def LmC (g : GT) (d t : Nat) (y : MethodName) (cc : ByteArray) (nL : Nat) (av : List Value) (n : Nat) (c c' : CF) : Prop :=
  Met (gl g) y (Wd y cc nL none) (rmC d t) (va_Pc av (fun U => va_P (gD g) vwCl (wq g n c) U.heap ∧ U.heap.size = gb g + n ∧ KN g U)) (fun _ st oc u => oc = .returned none ∧ va_P (gD g) vwCl (wq g (n + t) c') u.heap ∧ va_F (gF g) st u) t (1000 * t) (gF g)
set_option maxHeartbeats 4000000 in
theorem LmC.of {g : GT} {d t : Nat} {y : MethodName} {cc : ByteArray} {nL : Nat} {av : List Value} {n : Nat} {c c' : CF} (hy : plainName y.cls = true) (hyn : y.name = "<init>") (hn : (lg_sl av).length ≤ nL)
    (walk : ∀ (Pt : Nat → List (Nat × Value) → List Value → Nat → CF → Prop) (En : CF → Prop), AmbC true g cc y.cls d nL n t Pt En → (∀ cf, (∀ k, k < n + t → cf k = c' k) → En cf) → Pt 0 (lv_args 0 av) [] 0 c) : LmC g d t y cc nL av n c c' := by
  refine Met.ofW (cc := cc) (maxL := nL) (ret := none) hy rfl ?_
  intro p e s m args below meth cd s₁ B hml hv
  obtain ⟨rfl, hP, hz, hK⟩ := hv
  have hts := atoms_spec (ws := Wd y cc nL none) B.pre
  have hown : s.vm.findClass y.cls = some m.cls := findClass_of_methodNamed B.named
  have hx := B.exec
  have hb := B.bytes
  have hr := B.returns
  have hlocks := B.notSynchronized
  have hin : meth.name = "<init>" := (name_of_methodNamed B.named B.method).1.trans hyn
  rw [lg_entry_eq]
  refine walk _ (fun cf => ∀ k, k < n + t → cf k = c' k) ⟨p, e, (headSpec (Wd y cc nL none) (rmC d t)).room, s, m, av.toArray, below, meth, cd, MQ below (fun _ st oc u => oc = .returned none ∧ va_P (gD g) vwCl (wq g (n + t) c') u.heap ∧ va_F (gF g) st u) av.toArray s t (1000 * t) (gF g), ⟨hx, hb, hml, hown, fun w hw => hts w (List.mem_cons_of_mem _ hw)⟩, hK, fun _ => hin, ⟨Nat.le_refl _, Nat.le_refl _, Nat.le_refl _, Nat.le_refl _⟩, hz, ?_, rfl⟩ (fun cf h => h) _ _ [] ?_ (by rw [Nat.add_zero]; exact hP) va_S.rf
  · intro pc ls H locs cf hE hd hP2 hS
    refine W.vret hx hb hr (fun u hu _ => ⟨rfl, ?_, hS.F hu⟩) (fun q hq => hS.2.2 q hq) hd hlocks
    rw [hu, ← wq_congr g hE]
    exact hP2
  · exact lv_entry av hn
section CTOR
variable {ini : Bool} {g : GT} {cc : ByteArray} {own : String} {d nL n0 t : Nat} {Pt : Nat → List (Nat × Value) → List Value → Nat → CF → Prop} {En : CF → Prop} {pc : Nat} {L : List (Nat × Value)} {st : List Value} {n : Nat} {c : CF}
theorem c_ret (A : AmbC ini g cc own d nL n0 t Pt En) (hn : n = t) (hdg : decode cc pc = .ok (.return_, 1)) (he : En c) : Pt pc L [] n c := by
  subst hn
  obtain ⟨p, e, R, s, m, args, below, meth, cd, Q, ⟨hx, hb, hml, hown, hts⟩, hK, hin, hR, hz0, hret, rfl⟩ := A
  intro ls H locs hl hP hS
  exact hret pc ls H locs c he hdg hP hS
theorem c_aload (A : AmbC ini g cc own d nL n0 t Pt En) {j : Fin 4} {a : Nat} (k : Nat) (hdg : decode cc pc = .ok (.aload_n j, 1)) (hL : L[k]? = some ((j : Nat), rV g a)) (kk : Pt (pc + 1) L (rV g a :: st) n c) : Pt pc L st n c := by
  obtain ⟨p, e, R, s, m, args, below, meth, cd, Q, ⟨hx, hb, hml, hown, hts⟩, hK, hin, hR, hz0, hret, rfl⟩ := A
  intro ls H locs hl hP hS
  exact lv_aload_n hx hb hdg rfl (lv_at hl k hL) (kk ls H locs hl hP hS)
theorem c_iload (A : AmbC ini g cc own d nL n0 t Pt En) {j : Fin 4} {z : Int} (k : Nat) (hdg : decode cc pc = .ok (.iload_n j, 1)) (hL : L[k]? = some ((j : Nat), iV z)) (kk : Pt (pc + 1) L (iV z :: st) n c) : Pt pc L st n c := by
  obtain ⟨p, e, R, s, m, args, below, meth, cd, Q, ⟨hx, hb, hml, hown, hts⟩, hK, hin, hR, hz0, hret, rfl⟩ := A
  intro ls H locs hl hP hS
  exact lv_iload_n hx hb hdg rfl (lv_at hl k hL) (kk ls H locs hl hP hS)
theorem c_iconst (A : AmbC ini g cc own d nL n0 t Pt En) {z : Int} (hdg : decode cc pc = .ok (.iconst z, 1)) (kk : Pt (pc + 1) L (iV z :: st) n c) : Pt pc L st n c := by
  obtain ⟨p, e, R, s, m, args, below, meth, cd, Q, ⟨hx, hb, hml, hown, hts⟩, hK, hin, hR, hz0, hret, rfl⟩ := A
  intro ls H locs hl hP hS
  exact lv_iconst hx hb hdg rfl (kk ls H locs hl hP hS)
theorem c_bipush (A : AmbC ini g cc own d nL n0 t Pt En) {z : Int} (hdg : decode cc pc = .ok (.bipush z, 2)) (hn : (Int8.ofInt z).toInt32 = Int32.ofInt z) (kk : Pt (pc + 2) L (iV z :: st) n c) : Pt pc L st n c := by
  obtain ⟨p, e, R, s, m, args, below, meth, cd, Q, ⟨hx, hb, hml, hown, hts⟩, hK, hin, hR, hz0, hret, rfl⟩ := A
  intro ls H locs hl hP hS
  exact lv_bipush hx hb hdg hn (kk ls H locs hl hP hS)
theorem c_sipush (A : AmbC ini g cc own d nL n0 t Pt En) {z : Int} (hdg : decode cc pc = .ok (.sipush z, 3)) (hn : (Int16.ofInt z).toInt32 = Int32.ofInt z) (kk : Pt (pc + 3) L (iV z :: st) n c) : Pt pc L st n c := by
  obtain ⟨p, e, R, s, m, args, below, meth, cd, Q, ⟨hx, hb, hml, hown, hts⟩, hK, hin, hR, hz0, hret, rfl⟩ := A
  intro ls H locs hl hP hS
  exact lv_sipush hx hb hdg hn (kk ls H locs hl hP hS)
theorem c_dup (A : AmbC ini g cc own d nL n0 t Pt En) {v : Value} (hdg : decode cc pc = .ok (.dup, 1)) (hv : v.category = 1) (kk : Pt (pc + 1) L (v :: v :: st) n c) : Pt pc L (v :: st) n c := by
  obtain ⟨p, e, R, s, m, args, below, meth, cd, Q, ⟨hx, hb, hml, hown, hts⟩, hK, hin, hR, hz0, hret, rfl⟩ := A
  intro ls H locs hl hP hS
  exact lv_dup hx hb hdg hv (kk ls H locs hl hP hS)
theorem c_istore (A : AmbC ini g cc own d nL n0 t Pt En) {j : Fin 4} {z : Int} {L' : List (Nat × Value)} (hdg : decode cc pc = .ok (.istore_n j, 1)) (hn : (j : Nat) < nL) (hL : ((j : Nat), iV z) :: L.filter (fun q => !(q.1 == (j : Nat)) && !(q.1 + 1 == (j : Nat) && q.2.category == 2)) = L') (kk : Pt (pc + 1) L' st n c) : Pt pc L (iV z :: st) n c := by
  obtain ⟨p, e, R, s, m, args, below, meth, cd, Q, ⟨hx, hb, hml, hown, hts⟩, hK, hin, hR, hz0, hret, rfl⟩ := A
  intro ls H locs hl hP hS
  exact lv_istore_n hx hb hdg rfl hl hn hL (fun ls' hl' => kk ls' H locs hl' hP hS)
theorem c_iinc (A : AmbC ini g cc own d nL n0 t Pt En) {j : Nat} {z i : Int} {L' : List (Nat × Value)} (k : Nat) (hdg : decode cc pc = .ok (.iinc j i, 3)) (hk : L[k]? = some (j, iV z)) (hn : j < nL) (hL : (j, iV (z + i)) :: L.filter (fun q => !(q.1 == j) && !(q.1 + 1 == j && q.2.category == 2)) = L') (kk : Pt (pc + 3) L' st n c) : Pt pc L st n c := by
  obtain ⟨p, e, R, s, m, args, below, meth, cd, Q, ⟨hx, hb, hml, hown, hts⟩, hK, hin, hR, hz0, hret, rfl⟩ := A
  intro ls H locs hl hP hS
  exact lv_iinc hx hb hdg hl hk (Int32.ofInt_add z i).symm hn hL (fun ls' hl' => kk ls' H locs hl' hP hS)
theorem c_goto (A : AmbC ini g cc own d nL n0 t Pt En) {off : Int} {tgt : Nat} (hdg : decode cc pc = .ok (.goto off, 3)) (ht : (pc : Int) + off = (tgt : Int)) (kk : Pt tgt L st n c) : Pt pc L st n c := by
  obtain ⟨p, e, R, s, m, args, below, meth, cd, Q, ⟨hx, hb, hml, hown, hts⟩, hK, hin, hR, hz0, hret, rfl⟩ := A
  intro ls H locs hl hP hS
  exact lv_goto hx hb hdg ht (kk ls H locs hl hP hS)
theorem c_ge (A : AmbC ini g cc own d nL n0 t Pt En) {a b : Int} {off : Int} {tgt : Nat} (hdg : decode cc pc = .ok (.if_icmp .ge off, 3)) (ht : (pc : Int) + off = (tgt : Int)) (k1 : wr a < wr b → Pt (pc + 3) L st n c) (k2 : ¬ wr a < wr b → Pt tgt L st n c) : Pt pc L (iV b :: iV a :: st) n c := by
  obtain ⟨p, e, R, s, m, args, below, meth, cd, Q, ⟨hx, hb, hml, hown, hts⟩, hK, hin, hR, hz0, hret, rfl⟩ := A
  intro ls H locs hl hP hS
  refine lv_icmp_ge hx hb hdg ht (fun q => k2 (fun w => ?_) ls H locs hl hP hS) (fun q => k1 ?_ ls H locs hl hP hS)
  · have q' := (z_le b a).mp q
    omega
  · have q' : ¬ (wr b ≤ wr a) := fun w => q ((z_le b a).mpr w)
    omega
theorem c_astore (A : AmbC ini g cc own d nL n0 t Pt En) {j : Fin 4} {z : Nat} {L' : List (Nat × Value)} (hdg : decode cc pc = .ok (.astore_n j, 1)) (hn : (j : Nat) < nL) (hL : ((j : Nat), rV g z) :: L.filter (fun q => !(q.1 == (j : Nat)) && !(q.1 + 1 == (j : Nat) && q.2.category == 2)) = L') (kk : Pt (pc + 1) L' st n c) : Pt pc L (rV g z :: st) n c := by
  obtain ⟨p, e, R, s, m, args, below, meth, cd, Q, ⟨hx, hb, hml, hown, hts⟩, hK, hin, hR, hz0, hret, rfl⟩ := A
  intro ls H locs hl hP hS
  exact lv_astore_n hx hb hdg rfl hl hn hL (fun ls' hl' => kk ls' H locs hl' hP hS)
theorem c_cong (A : AmbC ini g cc own d nL n0 t Pt En) {c' : CF} (h : ∀ k, k < n0 + n → c k = c' k) (kk : Pt pc L st n c') : Pt pc L st n c := by
  obtain ⟨p, e, R, s, m, args, below, meth, cd, Q, ⟨hx, hb, hml, hown, hts⟩, hK, hin, hR, hz0, hret, rfl⟩ := A
  intro ls H locs hl hP hS
  rw [wq_congr g h] at hP
  exact kk ls H locs hl hP hS
theorem c_loc (A : AmbC ini g cc own d nL n0 t Pt En) {L' : List (Nat × Value)} (ks : List Nat) (hL : lv_pick L ks = L') (kk : Pt pc L' st n c) : Pt pc L st n c := by
  obtain ⟨p, e, R, s, m, args, below, meth, cd, Q, ⟨hx, hb, hml, hown, hts⟩, hK, hin, hR, hz0, hret, rfl⟩ := A
  intro ls H locs hl hP hS
  exact kk ls H locs (lv_sub hl ks hL) hP hS
def ObjW : Prop := Cond.instanceMethod Lib.objectInit ∈ GW ∧ Cond.code Lib.objectInit ⟨#[0xb1]⟩ 1 none ∈ GW
theorem c_obj (A : AmbC ini g cc own (d + 1) nL n0 t Pt En) {idx : Nat} {v : Nat} (hW : ObjW) (hl0 : Cond.methodLink own idx Lib.objectInit ∈ GW) (hcat : (st.map fun v => v.category).sum ≤ 8) (hdg : decode cc pc = .ok (.invokespecial idx, 3)) (kk : Pt (pc + 3) L st n c) : Pt pc L (rV g v :: st) n c := by
  obtain ⟨p, e, R, s, m, args, below, meth, cd, Q, ⟨hx, hb, hml, hown, hts⟩, hK, hin, hR, hz0, hret, rfl⟩ := A
  intro ls H locs hl hP hS
  exact W.objInit hx hb hown (hts _ hl0) (hts _ hW.1) (hts _ hW.2) rfl (hl.1.trans hml.symm) rfl hdg (by omega) (by show 2 * 0 + _ + 12 ≤ _; omega) (kk ls H locs hl hP hS)
theorem c_get (A : AmbC ini g cc own d nL n0 t Pt En) {k ci j idx : Nat} {fs : List Value} {v : Value} (hk : k < n0 + n) (hc : c k = .inr (ci, fs)) (hf : FL own idx ci j) (hv : fs[j]? = some v) (hdg : decode cc pc = .ok (.getfield idx, 3)) (kk : Pt (pc + 3) L (v :: st) n c) : Pt pc L (rV g k :: st) n c := by
  obtain ⟨p, e, R, s, m, args, below, meth, cd, Q, ⟨hx, hb, hml, hown, hts⟩, hK, hin, hR, hz0, hret, rfl⟩ := A
  intro ls H locs hl hP hS
  obtain ⟨C, T, N, h1, h2, h3, h4⟩ := hf
  have he := wq_at g c hk
  rw [hc] at he
  exact va_get hx hb hts h3 hown hK.1 hP k he h1 j h2 (hts _ h4) (fun _ q => q) hv hdg (kk ls H locs hl hP hS)
/-- any field, final or not, in a constructor of its class -/
def FQ (own : String) (c j : Nat) (ty : FieldType) : Prop := ∃ (T : u_T) (N : Nat) (ty0 : Nat → FieldType), vwCl[c]? = some (own, T, N) ∧ (∀ k, k < N → parseFieldDescriptor (T k).2.2.1 = some (ty0 k)) ∧ (∀ a, a < N → ∀ b, b < N → a ≠ b → (T a).2.1 ≠ (T b).2.1) ∧ parseFieldDescriptor (T j).2.2.1 = some ty ∧ (T j).1 = own
theorem W_size {p : Program} {l : Launch} {e : Env} {R : Room} {s : State} {m : MethodId} {args : Array Value} {below : List Frame} {meth : Method} {cd : Code} {H : Heap} {locs : List Loc} {cells slots : Nat} {Q : State → Prop} {f : JFrame} (k : H.size ≤ s.heap.size + cells → W p l e R s m args below meth cd H locs cells slots Q f) : W p l e R s m args below meth cd H locs cells slots Q f := by
  intro T hT X
  have h1 : T.heap.size ≤ s.heap.size + cells := X.same.2.2.1
  exact k (by rw [← hT]; exact h1) T hT X
theorem wq_size {H0 H : Heap} {locs : List Loc} (hP : va_P (gD g) vwCl (wq g (n0 + n) c) H) (hS : va_S (gF g) H0 H locs) (hz0 : H0.size = gb g + n0) (hu : H.size ≤ H0.size + n) : H.size = gb g + (n0 + n) := by
  have h1 := hS.1
  by_cases hn : n = 0
  · subst hn; omega
  · have h2 := (hP (n0 + n - 1) _ (wq_at g c (by omega))).lt
    dsimp only at h2
    omega
set_option maxHeartbeats 1000000 in
theorem c_putn (A : AmbC ini g cc own d nL n0 t Pt En) {k ci j idx : Nat} {fs : List Value} {v : Value} {ty : FieldType} (hk : k < n0 + n) (hc : c k = .inr (ci, fs)) (hf : FL own idx ci j) (hp : FP ci j ty) (hnr : narrow ty v = v) (hft : fits ty v = true) (hl0 : j < fs.length) (hdg : decode cc pc = .ok (.putfield idx, 3)) (kk : Pt (pc + 3) L st n (cset c k (.inr (ci, fs.set j v)))) : Pt pc L (v :: rV g k :: st) n c := by
  obtain ⟨p, e, R, s, m, args, below, meth, cd, Q, ⟨hx, hb, hml, hown, hts⟩, hK, hin, hR, hz0, hret, rfl⟩ := A
  intro ls H locs hl hP hS
  obtain ⟨C, T, N, h1, h2, h3, h4⟩ := hf
  obtain ⟨C', T', N', ty0, e1, e2, e3, e4, e5⟩ := hp
  rw [h1] at e1
  cases e1
  have he := wq_at g c hk
  rw [hc] at he
  refine va_put hx hb hts h3 ty0 e2 e3 hown hK.1 hP (wq_D g _ c) hS k he h1 j h2 (hts _ h4) (fun _ q => q) e4 e5 hnr hft hl0 hdg ?_
  intro H1 locs1 hP1 _ hS1
  rw [wq_set g c hk] at hP1
  exact kk ls H1 locs1 hl hP1 hS1
set_option maxHeartbeats 1000000 in
theorem c_putF (A : AmbC true g cc own d nL n0 t Pt En) {k ci j idx : Nat} {fs : List Value} {v : Value} {ty : FieldType} (hk : k < n0 + n) (hc : c k = .inr (ci, fs)) (hf : FL own idx ci j) (hp : FQ own ci j ty) (hfin : ∀ C T N, vwCl[ci]? = some (C, T, N) → (T j).2.2.2 = true) (hnr : narrow ty v = v) (hft : fits ty v = true) (hl0 : j < fs.length) (hdg : decode cc pc = .ok (.putfield idx, 3)) (kk : Pt (pc + 3) L st n (cset c k (.inr (ci, fs.set j v)))) : Pt pc L (v :: rV g k :: st) n c := by
  obtain ⟨p, e, R, s, m, args, below, meth, cd, Q, ⟨hx, hb, hml, hown, hts⟩, hK, hin, hR, hz0, hret, rfl⟩ := A
  intro ls H locs hl hP hS
  obtain ⟨C, T, N, h1, h2, h3, h4⟩ := hf
  obtain ⟨T', N', ty0, e1, e2, e3, e4, e5⟩ := hp
  have hfn := hfin _ _ _ h1
  rw [h1] at e1
  cases e1
  have he := wq_at g c hk
  rw [hc] at he
  refine va_putF hx hb hts h3 ty0 e2 e3 hown hK.1 hP (wq_D g _ c) hS k he h1 j h2 (hts _ h4) (fun _ q => q) hfn (hin rfl) e5 e4 hnr hft hl0 hdg ?_
  intro H1 locs1 hP1 _ hS1
  rw [wq_set g c hk] at hP1
  exact kk ls H1 locs1 hl hP1 hS1
set_option maxHeartbeats 1000000 in
theorem c_new (A : AmbC ini g cc own d nL n0 t Pt En) {idx ci N : Nat} {C : String} {T : u_T} {ty : Nat → FieldType} {fs : List Value} (hc : vwCl[ci]? = some (C, T, N)) (hin0 : ∀ w ∈ u_ws C T N, w ∈ GW) (hty : ∀ k, k < N → parseFieldDescriptor (T k).2.2.1 = some (ty k)) (hcl : Cond.classLink own idx C ∈ GW) (hinst : Cond.instantiable C N ∈ GW) (hini : Cond.initialized C ∈ GW) (hfs : ∀ j, j < N → defaultValue (ty j) = vp_V fs j) (hN : N ≤ 1000) (hn : n + 1 ≤ t) (hdg : decode cc pc = .ok (.new idx, 3)) (kk : Pt (pc + 3) L (rV g (n0 + n) :: st) (n + 1) (cset c (n0 + n) (.inr (ci, fs)))) : Pt pc L st n c := by
  obtain ⟨p, e, R, s, m, args, below, meth, cd, Q, ⟨hx, hb, hml, hown, hts⟩, hK, hin, hR, hz0, hret, rfl⟩ := A
  intro ls H locs hl hP hS
  refine W_size (fun hu => ?_)
  have hz := wq_size hP hS hz0 hu
  have hKn := hK.1.1 ci _ hc
  refine W.newcK hx hb hown (hts _ hcl) (hts _ hinst) (hts _ hini) rfl hdg (by omega) (by omega) hKn.2.1 rfl fun H1 kC hkC e1 z1 o1 => ?_
  have hk : ∀ (k : Nat) (x : Nat × va_E), (wq g (n0 + n) c)[k]? = some x → H1[x.1]? = H[x.1]? := fun k x hx => o1 x.1 ((hP k x hx).lt)
  have hP1 : va_P (gD g) vwCl (wq g (n0 + n) c ++ [(H.size, .inr (ci, fs))]) H1 := (hP.kept hk).app (fun k x hx => by
    have hz : k < 1 := (List.getElem?_eq_some_iff.mp hx).1
    rw [show k = 0 by omega] at hx
    cases hx
    exact ⟨_, hc, (u_born ty hts hin0 hKn hkC e1 hty).to hfs⟩)
  rw [hz, wq_push] at hP1
  rw [hz]
  refine W.widen (k := n + 1) (n := 1000 * (n + 1)) (Nat.le_refl _) (by omega) ?_
  exact kk ls H1 locs hl hP1 ⟨Nat.le_trans hS.1 (by omega), fun x h1 h2 => (o1 x (Nat.lt_of_lt_of_le h1 hS.1)).trans (hS.2.1 x h1 h2), hS.2.2⟩
set_option maxHeartbeats 1000000 in
theorem c_newa (A : AmbC ini g cc own d nL n0 t Pt En) (ti : Nat) {atype : ArrayType} {ty : FieldType} {z : Int} {N : Nat} {a0 : vp_A} (hw : Cond.arrayClass ty ∈ GW) (hty : newarray.typeOf atype = ty) (hti : (tysOf g)[ti]? = some (gA g ti, ty)) (hnr : ∀ C, ty ≠ .object C) (ha : ∀ cA : ClassId, vp_cell cA a0 = arrV cA N (fun _ => defaultValue ty)) (hz0' : wr z = N) (hN : N ≤ 1000) (hb8 : componentBytes ty ≤ 8) (hn : n + 1 ≤ t) (hdg : decode cc pc = .ok (.newarray atype, 2)) (kk : Pt (pc + 2) L (rV g (n0 + n) :: st) (n + 1) (cset c (n0 + n) (.inl (gA g ti, a0)))) : Pt pc L (iV z :: st) n c := by
  obtain ⟨p, e, R, s, m, args, below, meth, cd, Q, ⟨hx, hb, hml, hown, hts⟩, hK, hin, hR, hz0, hret, rfl⟩ := A
  intro ls H locs hl hP hS
  refine W_size (fun hu => ?_)
  have hz := wq_size hP hS hz0 hu
  subst hty
  have hcl : (Int32.ofInt z).toNatClampNeg = N := by rw [clamp_nat (by omega)]; omega
  refine va_newaK hx hb (hts _ hw) rfl hdg rfl (nneg (by omega)) hcl (Nat.le_trans (Nat.mul_le_mul hN hb8) (by decide)) (by omega) (by omega) rfl fun H1 cA e1 z1 o1 hAr hNm => ?_
  have hcA : cA = gA g ti := by
    have h1 := (hK.1.2 ti _ hti).2
    have h2 : s.vm.findClass ("[" ++ (newarray.typeOf atype).toString) = some (gA g ti) := by
      revert h1
      cases hq : newarray.typeOf atype with
      | object C => exact absurd hq (hnr C)
      | _ => exact fun h1 => h1
    exact Option.some.inj (hNm.symm.trans h2)
  subst hcA
  have hk : ∀ (k : Nat) (x : Nat × va_E), (wq g (n0 + n) c)[k]? = some x → H1[x.1]? = H[x.1]? := fun k x hx => o1 x.1 ((hP k x hx).lt)
  have hP1 : va_P (gD g) vwCl (wq g (n0 + n) c ++ [(H.size, .inl (gA g ti, a0))]) H1 := (hP.kept hk).app (fun k x hx => by
    have hz : k < 1 := (List.getElem?_eq_some_iff.mp hx).1
    rw [show k = 0 by omega] at hx
    cases hx
    show H1[H.size]? = some (vp_cell _ _)
    rw [ha]
    exact e1)
  rw [hz, wq_push] at hP1
  rw [hz]
  refine W.widen (k := n + 1) (n := 1000 * (n + 1)) (Nat.le_refl _) (by omega) ?_
  exact kk ls H1 locs hl hP1 ⟨Nat.le_trans hS.1 (by omega), fun x h1 h2 => (o1 x (Nat.lt_of_lt_of_le h1 hS.1)).trans (hS.2.1 x h1 h2), hS.2.2⟩
set_option maxHeartbeats 1000000 in
theorem c_newq (A : AmbC ini g cc own d nL n0 t Pt En) (ti : Nat) {C : String} {idx : Nat} {z : Int} {N : Nat} (hcl0 : Cond.classLink own idx C ∈ GW) (hov : ∀ U, KN g U → va_AO C U) (hti : (tysOf g)[ti]? = some (gA g ti, .object C)) (hz0' : wr z = N) (hN : N ≤ 1000) (hn : n + 1 ≤ t) (hdg : decode cc pc = .ok (.anewarray idx, 3)) (kk : Pt (pc + 3) L (rV g (n0 + n) :: st) (n + 1) (cset c (n0 + n) (.inl (gA g ti, N, .inr (.inr (.inr (.inr (fun _ => none)))))))) : Pt pc L (iV z :: st) n c := by
  obtain ⟨p, e, R, s, m, args, below, meth, cd, Q, ⟨hx, hb, hml, hown, hts⟩, hK, hin, hR, hz0, hret, rfl⟩ := A
  intro ls H locs hl hP hS
  refine W_size (fun hu => ?_)
  have hz := wq_size hP hS hz0 hu
  have hcl : (Int32.ofInt z).toNatClampNeg = N := by rw [clamp_nat (by omega)]; omega
  refine W.anew hx hb hown (hts _ hcl0) (va_AO.use (hov _ hK)) rfl hdg rfl (nneg (by omega)) (by omega) (by omega) (by omega) fun cA kA comp f1 f2 f3 f4 => ?_
  generalize hH1 : H.push ({ cls := cA, slots := Array.replicate (Int32.ofInt z).toNatClampNeg .null, vm := .none } : Cell) = H1
  have z1 : H1.size = H.size + 1 := by rw [← hH1, Array.size_push]
  have e1 : H1[H.size]? = some (arrV cA N (fun _ => .null)) := by rw [← hH1, Array.getElem?_push_size, ← arrV_new, hcl]
  have o1 : ∀ q : Nat, q < H.size → H1[q]? = H[q]? := fun q hq => by rw [← hH1, Array.getElem?_push, if_neg (Nat.ne_of_lt hq)]
  have hcA : cA = gA g ti := by
    obtain ⟨kA', comp', g1, g2, g3, g4⟩ := (hK.1.2 ti _ hti).2
    exact Option.some.inj (f1.symm.trans g4)
  subst hcA
  have hk : ∀ (k : Nat) (x : Nat × va_E), (wq g (n0 + n) c)[k]? = some x → H1[x.1]? = H[x.1]? := fun k x hx => o1 x.1 ((hP k x hx).lt)
  have hP1 : va_P (gD g) vwCl (wq g (n0 + n) c ++ [(H.size, .inl (gA g ti, N, .inr (.inr (.inr (.inr (fun _ => none))))))]) H1 := (hP.kept hk).app (fun k x hx => by
    have hz : k < 1 := (List.getElem?_eq_some_iff.mp hx).1
    rw [show k = 0 by omega] at hx
    cases hx
    show H1[H.size]? = some (vp_cell _ _)
    rw [e1]
    rfl)
  rw [hz, wq_push] at hP1
  rw [hz, hcl]
  refine W.widen (k := n + 1) (n := 1000 * (n + 1)) (Nat.le_refl _) (by omega) ?_
  exact kk ls H1 locs hl hP1 ⟨Nat.le_trans hS.1 (by omega), fun x h1 h2 => (o1 x (Nat.lt_of_lt_of_le h1 hS.1)).trans (hS.2.1 x h1 h2), hS.2.2⟩
set_option maxHeartbeats 1000000 in
theorem c_aast (A : AmbC ini g cc own d nL n0 t Pt En) (ti : Nat) {k v ci N : Nat} {r : vw_C} {z : Int} {f : Nat → Option Nat} {vs : List Value} (hk : k < n0 + n) (hv : v < n0 + n) (hti : (tysOf g)[ti]? = some (gA g ti, .object r.1)) (hc : c k = .inl (gA g ti, N, .inr (.inr (.inr (.inr f))))) (hcv : c v = .inr (ci, vs)) (hr : vwCl[ci]? = some r) (hi : 0 ≤ wr z ∧ wr z < N) (hdg : decode cc pc = .ok (.aastore, 1)) (kk : Pt (pc + 1) L st n (cset c k (.inl (gA g ti, N, .inr (.inr (.inr (.inr (va_up f (wr z).toNat (some (gb g + v)))))))))) : Pt pc L (rV g v :: iV z :: rV g k :: st) n c := by
  obtain ⟨p, e, R, s, m, args, below, meth, cd, Q, ⟨hx, hb, hml, hown, hts⟩, hK, hin, hR, hz0, hret, rfl⟩ := A
  intro ls H locs hl hP hS
  have he := wq_at g c hk
  rw [hc] at he
  have hev := wq_at g c hv
  rw [hcv] at hev
  refine va_astq hx hb hK.1 hP (wq_D g _ c) hS k ti v ci he hti hev hr (vp_in_wr hi) hdg ?_
  intro H1 locs1 hP1 _ hS1
  rw [clamp_nat hi.1, wq_set g c hk] at hP1
  exact kk ls H1 locs1 hl hP1 hS1
theorem c_iast (A : AmbC ini g cc own d nL n0 t Pt En) {k N : Nat} {z x : Int} {f : Nat → Int32} (hk : k < n0 + n) (hc : c k = .inl (gA g 0, N, .inl f)) (hi : 0 ≤ wr z ∧ wr z < N) (hdg : decode cc pc = .ok (.iastore, 1)) (kk : Pt (pc + 1) L st n (cset c k (.inl (gA g 0, N, .inl (upd f (wr z).toNat (Int32.ofInt x)))))) : Pt pc L (iV x :: iV z :: rV g k :: st) n c := by
  obtain ⟨p, e, R, s, m, args, below, meth, cd, Q, ⟨hx, hb, hml, hown, hts⟩, hK, hin, hR, hz0, hret, rfl⟩ := A
  intro ls H locs hl hP hS
  have he := wq_at g c hk
  rw [hc] at he
  refine va_iast hx hb hK.1 hP (wq_D g _ c) hS k 0 he rfl (vp_in_wr hi) hdg ?_
  intro H1 locs1 hP1 _ hS1
  rw [clamp_nat hi.1, wq_set g c hk] at hP1
  exact kk ls H1 locs1 hl hP1 hS1
theorem pcC_blind (g : GT) (n : Nat) (c : CF) (av : List Value) : FrameBlind (va_Pc av (fun U => va_P (gD g) vwCl (wq g n c) U.heap ∧ U.heap.size = gb g + n ∧ KN g U)) := by
  intro a U gf mk hp
  exact ⟨hp.1, hp.2.1, hp.2.2.1, KN.same (u := U) hp.2.2.2 rfl⟩
theorem run_WC {p : Program} {e : Env} {R : Room} {s : State} {m : MethodId} {args : Array Value} {below : List Frame} {meth : Method} {cd : Code} {H H0 : Heap} {locs : List Loc} {cells slots t1 : Nat} {Q : State → Prop} {ls : Array Slot} {rest : List Value} {l : Launch} {n1 : Nat} {c1 : CF}
    (hr : va_Run p l e R s m args below meth cd H locs cells slots t1 (1000 * t1) (F0 m pc ls st) rest (fun st0 oc u => oc = .returned none ∧ va_P (gD g) vwCl (wq g n1 c1) u.heap ∧ va_F (gF g) st0 u) (gF g)) (hS : va_S (gF g) H0 H locs)
    (kk : ∀ (H1 : Heap) (locs1 : List Loc), va_P (gD g) vwCl (wq g n1 c1) H1 → va_S (gF g) H0 H1 locs1 → W p l e R s m args below meth cd H1 locs1 (cells + t1) (slots + 1000 * t1) Q (F0 m (pc + 3) ls rest)) : W p l e R s m args below meth cd H locs cells slots Q (F0 m pc ls st) := by
  intro T hT X
  obtain ⟨v, st₀, u, T', L, h0, X', hL, e1, e2, ⟨hv, hp, hz, hk⟩, stp⟩ := hr T hT X
  cases hv
  rw [h0] at hz hk
  obtain ⟨t2, a1, b1⟩ := kk T'.heap (locs ++ L) (by rw [e1]; exact hp)
    ⟨Nat.le_trans hS.1 (by rw [e1]; exact hz), fun q h1 h2 => by rw [e1, hk q (Nat.lt_of_lt_of_le h1 hS.1) h2]; exact hS.2.1 q h1 h2, fun q hq => by
      rcases List.mem_append.mp hq with h | h
      · exact hS.2.2 q h
      · exact hL q h⟩ T' rfl X'
  exact ⟨t2, stp t2 a1, b1⟩
set_option maxHeartbeats 1000000 in
theorem c_callN (A : AmbC ini g cc RX7 (d + 1) nL n0 t Pt En) {y : MethodName} {cy : ByteArray} {ny idx k d' t1 : Nat} {As rest : List Value} {c1 : CF} (hB : CB y cy ny none As.length) (hyn : y.name = "<init>") (hV : Cond.instanceMethod y ∈ GW) (hl0 : (idx, y) ∈ NWc) (hd : d' ≤ d) (hn : n + t1 ≤ t) (hst : st = As.reverse ++ rV g k :: rest) (hcat : (rest.map fun v => v.category).sum ≤ 8) (hdg : decode cc pc = .ok (.invokespecial idx, 3))
    (hM : LmC g d' t1 y cy ny (rV g k :: As) (n0 + n) c c1) (kk : Pt (pc + 3) L rest (n + t1) c1) : Pt pc L st n c := by
  obtain ⟨p, e, R, s, m, args, below, meth, cd, Q, ⟨hx, hb, hml, hown, hts⟩, hK, hin, hR, hz0, hret, rfl⟩ := A
  intro ls H locs hl hP hS
  refine W_size (fun hu => ?_)
  have hz := wq_size hP hS hz0 hu
  have cb : va_CN R s args RX7 idx y "SpiteField" cy ny none (Wd y cy ny none) (rmC d' t1) t1 (1000 * t1) As.length := va_cnB As.length hts (Wd_good hB.2.1) rfl rfl rfl (hK.2.1 _ hl0) (hts _ hB.1) hB.2.2.1 ⟨by show d' + 1 ≤ _; omega, by have := hB.2.2.2; show 8 + (ny + 11) + 64 * d' ≤ _; omega⟩
  have run := va_runIN (e := e) (below := below) (meth := meth) (locs := locs) (cells := n) (slots := 1000 * n) (b := gb g + k) (As := As) (rest := rest) (g := F0 m pc ls st) ⟨hx, hb, hml, hown, hts⟩ hM ⟨cb, hyn, hts _ hV⟩ ⟨pcC_blind g (n0 + n) c _, fun U hU hW => ⟨rfl, by rw [hU]; exact hP, by rw [hU]; exact hz, hK.warm hW⟩⟩ rfl rfl hl.1 hst (lv_room hcat) hdg ⟨by omega, by omega⟩
  refine run_WC run hS (fun H1 locs1 hP1 hS1 => ?_)
  rw [Nat.add_assoc] at hP1
  rw [← Nat.mul_add]
  exact kk ls H1 locs1 hl hP1 hS1
set_option maxHeartbeats 1000000 in
theorem c_call (A : AmbC ini g cc own (d + 1) nL n0 t Pt En) {y : MethodName} {cy : ByteArray} {ny idx k d' t1 : Nat} {As rest : List Value} {c1 : CF} (hB : CB y cy ny none As.length) (hyn : y.name = "<init>") (hV : Cond.instanceMethod y ∈ GW) (hl0 : Cond.methodLink own idx y ∈ GW) (hd : d' ≤ d) (hn : n + t1 ≤ t) (hst : st = As.reverse ++ rV g k :: rest) (hcat : (rest.map fun v => v.category).sum ≤ 8) (hdg : decode cc pc = .ok (.invokespecial idx, 3))
    (hM : LmC g d' t1 y cy ny (rV g k :: As) (n0 + n) c c1) (kk : Pt (pc + 3) L rest (n + t1) c1) : Pt pc L st n c := by
  obtain ⟨p, e, R, s, m, args, below, meth, cd, Q, ⟨hx, hb, hml, hown, hts⟩, hK, hin, hR, hz0, hret, rfl⟩ := A
  intro ls H locs hl hP hS
  refine W_size (fun hu => ?_)
  have hz := wq_size hP hS hz0 hu
  have cb : CallB R s args own idx y cy ny none (Wd y cy ny none) (rmC d' t1) t1 (1000 * t1) As.length := callB_of As.length hts (Wd_good hB.2.1) rfl rfl rfl (hts _ hB.1) (hts _ hl0) hB.2.2.1 ⟨by show d' + 1 ≤ _; omega, by have := hB.2.2.2; show 8 + (ny + 11) + 64 * d' ≤ _; omega⟩
  have run := va_runI (e := e) (below := below) (meth := meth) (locs := locs) (cells := n) (slots := 1000 * n) (b := gb g + k) (As := As) (rest := rest) (g := F0 m pc ls st) ⟨hx, hb, hml, hown, hts⟩ hM ⟨cb, hyn, hts _ hV⟩ ⟨pcC_blind g (n0 + n) c _, fun U hU hW => ⟨rfl, by rw [hU]; exact hP, by rw [hU]; exact hz, hK.warm hW⟩⟩ rfl rfl hl.1 hst (lv_room hcat) hdg ⟨by omega, by omega⟩
  refine run_WC run hS (fun H1 locs1 hP1 hS1 => ?_)
  rw [Nat.add_assoc] at hP1
  rw [← Nat.mul_add]
  exact kk ls H1 locs1 hl hP1 hS1
end CTOR
