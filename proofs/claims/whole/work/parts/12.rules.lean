section RULES
variable {g : GT} {cc : ByteArray} {own : String} {d nL : Nat} {rt : Option FieldType} {Pt : Nat → List (Nat × Value) → List Value → Hp → Prop} {En : Option Value → Hp → Prop} {pc : Nat} {L : List (Nat × Value)} {st : List Value} {h : Hp}
def iand (a b : Int) : Int := (Int32.ofInt a &&& Int32.ofInt b).toInt
def ior (a b : Int) : Int := (Int32.ofInt a ||| Int32.ofInt b).toInt
def ixor (a b : Int) : Int := (Int32.ofInt a ^^^ Int32.ofInt b).toInt
def ishl (a b : Int) : Int := (Int32.ofInt a <<< (Int32.ofInt b &&& 31)).toInt
def ishr (a b : Int) : Int := (Int32.ofInt a >>> (Int32.ofInt b &&& 31)).toInt
def iushr (a b : Int) : Int := ((Int32.ofInt a).toUInt32 >>> ((Int32.ofInt b).toUInt32 &&& Int32.toUInt32 31)).toInt32.toInt
def idv (a b : Int) : Int := (Int32.ofInt a / Int32.ofInt b).toInt
def irm (a b : Int) : Int := (Int32.ofInt a - Int32.ofInt a / Int32.ofInt b * Int32.ofInt b).toInt
def land64 (a b : Int) : Int := (Int64.ofInt a &&& Int64.ofInt b).toInt
def lor64 (a b : Int) : Int := (Int64.ofInt a ||| Int64.ofInt b).toInt
def ldv (a b : Int) : Int := (Int64.ofInt a / Int64.ofInt b).toInt
def lrm (a b : Int) : Int := (Int64.ofInt a - Int64.ofInt a / Int64.ofInt b * Int64.ofInt b).toInt
def lshl64 (a b : Int) : Int := (Int64.ofInt a <<< ((Int32.ofInt b).toInt64 &&& 63)).toInt
def w8 (a : Int) : Int := (Int32.ofInt a).toInt8.toInt32.toInt
def w16 (a : Int) : Int := (Int32.ofInt a).toInt16.toInt32.toInt
theorem oi_t (x : Int32) : Int32.ofInt x.toInt = x := Int32.ofInt_toInt x
theorem ol_t (x : Int64) : Int64.ofInt x.toInt = x := Int64.ofInt_toInt x
theorem s_iconst (A : Amb g cc own d nL rt Pt En) {n : Int} (hdg : decode cc pc = .ok (.iconst n, 1)) (kk : Pt (pc + 1) L (iV n :: st) h) : Pt pc L st h := by
  obtain ⟨p, e, R, s, m, args, below, meth, c, nc, ns, Q, ⟨hx, hb, hml, hown, hts⟩, hK, hR, hret, rfl⟩ := A
  intro ls H locs hl hP hS
  exact lv_iconst hx hb hdg rfl (kk ls H locs hl hP hS)
theorem s_bipush (A : Amb g cc own d nL rt Pt En) {n : Int} (hdg : decode cc pc = .ok (.bipush n, 2)) (hn : (Int8.ofInt n).toInt32 = Int32.ofInt n) (kk : Pt (pc + 2) L (iV n :: st) h) : Pt pc L st h := by
  obtain ⟨p, e, R, s, m, args, below, meth, c, nc, ns, Q, ⟨hx, hb, hml, hown, hts⟩, hK, hR, hret, rfl⟩ := A
  intro ls H locs hl hP hS
  exact lv_bipush hx hb hdg hn (kk ls H locs hl hP hS)
theorem s_sipush (A : Amb g cc own d nL rt Pt En) {n : Int} (hdg : decode cc pc = .ok (.sipush n, 3)) (hn : (Int16.ofInt n).toInt32 = Int32.ofInt n) (kk : Pt (pc + 3) L (iV n :: st) h) : Pt pc L st h := by
  obtain ⟨p, e, R, s, m, args, below, meth, c, nc, ns, Q, ⟨hx, hb, hml, hown, hts⟩, hK, hR, hret, rfl⟩ := A
  intro ls H locs hl hP hS
  exact lv_sipush hx hb hdg hn (kk ls H locs hl hP hS)
theorem s_lconst (A : Amb g cc own d nL rt Pt En) {k : Fin 2} {n : Int} (hdg : decode cc pc = .ok (.lconst k, 1)) (hn : Int64.ofNat (k : Nat) = Int64.ofInt n) (kk : Pt (pc + 1) L (lV n :: st) h) : Pt pc L st h := by
  obtain ⟨p, e, R, s, m, args, below, meth, c, nc, ns, Q, ⟨hx, hb, hml, hown, hts⟩, hK, hR, hret, rfl⟩ := A
  intro ls H locs hl hP hS
  exact lv_lconst hx hb hdg hn (kk ls H locs hl hP hS)
theorem s_ldc (A : Amb g cc own d nL rt Pt En) {idx : Nat} {v : Int32} {n : Int} (hw : Cond.constant own idx v ∈ GW) (hn : v = Int32.ofInt n) (hdg : decode cc pc = .ok (.ldc idx, 2)) (kk : Pt (pc + 2) L (iV n :: st) h) : Pt pc L st h := by
  obtain ⟨p, e, R, s, m, args, below, meth, c, nc, ns, Q, ⟨hx, hb, hml, hown, hts⟩, hK, hR, hret, rfl⟩ := A
  intro ls H locs hl hP hS
  subst hn
  exact lv_ldc hx hb hown (hts _ hw) hdg (kk ls H locs hl hP hS)
theorem s_ldcw (A : Amb g cc own d nL rt Pt En) {idx : Nat} {v : Int32} {n : Int} (hw : Cond.constant own idx v ∈ GW) (hn : v = Int32.ofInt n) (hdg : decode cc pc = .ok (.ldc_w idx, 3)) (kk : Pt (pc + 3) L (iV n :: st) h) : Pt pc L st h := by
  obtain ⟨p, e, R, s, m, args, below, meth, c, nc, ns, Q, ⟨hx, hb, hml, hown, hts⟩, hK, hR, hret, rfl⟩ := A
  intro ls H locs hl hP hS
  subst hn
  exact lv_ldcw hx hb hown (hts _ hw) hdg (kk ls H locs hl hP hS)
theorem s_ldc2 (A : Amb g cc own d nL rt Pt En) {idx : Nat} {v : Int64} {n : Int} (hw : Cond.constantLong own idx v ∈ GW) (hn : v = Int64.ofInt n) (hdg : decode cc pc = .ok (.ldc2_w idx, 3)) (kk : Pt (pc + 3) L (lV n :: st) h) : Pt pc L st h := by
  obtain ⟨p, e, R, s, m, args, below, meth, c, nc, ns, Q, ⟨hx, hb, hml, hown, hts⟩, hK, hR, hret, rfl⟩ := A
  intro ls H locs hl hP hS
  subst hn
  exact lv_ldc2 hx hb hown (hts _ hw) hdg (kk ls H locs hl hP hS)
theorem s_ldcS (A : Amb g cc RX2 d nL rt Pt En) {idx : Nat} (q : Nat × String × Nat) (hq : q ∈ SR) (hi : idx = q.1) (hdg : decode cc pc = .ok (.ldc idx, 2)) (kk : Pt (pc + 2) L (sV g q.2.2 :: st) h) : Pt pc L st h := by
  obtain ⟨p, e, R, s, m, args, below, meth, c, nc, ns, Q, ⟨hx, hb, hml, hown, hts⟩, hK, hR, hret, rfl⟩ := A
  intro ls H locs hl hP hS
  subst hi
  exact va_ldcS hx hb hown (hK.2.2.2.1 q hq) hdg (kk ls H locs hl hP hS)
theorem s_iload_n (A : Amb g cc own d nL rt Pt En) {j : Fin 4} {z : Int} (k : Nat) (hdg : decode cc pc = .ok (.iload_n j, 1)) (hL : L[k]? = some ((j : Nat), iV z)) (kk : Pt (pc + 1) L (iV z :: st) h) : Pt pc L st h := by
  obtain ⟨p, e, R, s, m, args, below, meth, c, nc, ns, Q, ⟨hx, hb, hml, hown, hts⟩, hK, hR, hret, rfl⟩ := A
  intro ls H locs hl hP hS
  exact lv_iload_n hx hb hdg rfl (lv_at hl k hL) (kk ls H locs hl hP hS)
theorem s_iload (A : Amb g cc own d nL rt Pt En) {j : Nat} {z : Int} (k : Nat) (hdg : decode cc pc = .ok (.iload j, 2)) (hL : L[k]? = some (j, iV z)) (kk : Pt (pc + 2) L (iV z :: st) h) : Pt pc L st h := by
  obtain ⟨p, e, R, s, m, args, below, meth, c, nc, ns, Q, ⟨hx, hb, hml, hown, hts⟩, hK, hR, hret, rfl⟩ := A
  intro ls H locs hl hP hS
  exact lv_iload hx hb hdg (lv_at hl k hL) (kk ls H locs hl hP hS)
theorem s_lload_n (A : Amb g cc own d nL rt Pt En) {j : Fin 4} {z : Int} (k : Nat) (hdg : decode cc pc = .ok (.lload_n j, 1)) (hL : L[k]? = some ((j : Nat), lV z)) (kk : Pt (pc + 1) L (lV z :: st) h) : Pt pc L st h := by
  obtain ⟨p, e, R, s, m, args, below, meth, c, nc, ns, Q, ⟨hx, hb, hml, hown, hts⟩, hK, hR, hret, rfl⟩ := A
  intro ls H locs hl hP hS
  exact lv_lload_n hx hb hdg rfl (lv_at hl k hL) (kk ls H locs hl hP hS)
theorem s_lload (A : Amb g cc own d nL rt Pt En) {j : Nat} {z : Int} (k : Nat) (hdg : decode cc pc = .ok (.lload j, 2)) (hL : L[k]? = some (j, lV z)) (kk : Pt (pc + 2) L (lV z :: st) h) : Pt pc L st h := by
  obtain ⟨p, e, R, s, m, args, below, meth, c, nc, ns, Q, ⟨hx, hb, hml, hown, hts⟩, hK, hR, hret, rfl⟩ := A
  intro ls H locs hl hP hS
  exact lv_lload hx hb hdg (lv_at hl k hL) (kk ls H locs hl hP hS)
theorem s_aload_n (A : Amb g cc own d nL rt Pt En) {j : Fin 4} {a : Nat} (k : Nat) (hdg : decode cc pc = .ok (.aload_n j, 1)) (hL : L[k]? = some ((j : Nat), .ref a)) (kk : Pt (pc + 1) L (.ref a :: st) h) : Pt pc L st h := by
  obtain ⟨p, e, R, s, m, args, below, meth, c, nc, ns, Q, ⟨hx, hb, hml, hown, hts⟩, hK, hR, hret, rfl⟩ := A
  intro ls H locs hl hP hS
  exact lv_aload_n hx hb hdg rfl (lv_at hl k hL) (kk ls H locs hl hP hS)
theorem s_aload (A : Amb g cc own d nL rt Pt En) {j : Nat} {a : Nat} (k : Nat) (hdg : decode cc pc = .ok (.aload j, 2)) (hL : L[k]? = some (j, .ref a)) (kk : Pt (pc + 2) L (.ref a :: st) h) : Pt pc L st h := by
  obtain ⟨p, e, R, s, m, args, below, meth, c, nc, ns, Q, ⟨hx, hb, hml, hown, hts⟩, hK, hR, hret, rfl⟩ := A
  intro ls H locs hl hP hS
  exact lv_aload hx hb hdg (lv_at hl k hL) (kk ls H locs hl hP hS)
theorem s_raload_n (A : Amb g cc own d nL rt Pt En) {j : Fin 4} {a : Nat} (k : Nat) (hdg : decode cc pc = .ok (.aload_n j, 1)) (hL : L[k]? = some ((j : Nat), rV g a)) (kk : Pt (pc + 1) L (rV g a :: st) h) : Pt pc L st h := s_aload_n A k hdg hL kk
theorem s_raload (A : Amb g cc own d nL rt Pt En) {j : Nat} {a : Nat} (k : Nat) (hdg : decode cc pc = .ok (.aload j, 2)) (hL : L[k]? = some (j, rV g a)) (kk : Pt (pc + 2) L (rV g a :: st) h) : Pt pc L st h := s_aload A k hdg hL kk
theorem s_saload_n (A : Amb g cc own d nL rt Pt En) {j : Fin 4} {a : Nat} (k : Nat) (hdg : decode cc pc = .ok (.aload_n j, 1)) (hL : L[k]? = some ((j : Nat), sV g a)) (kk : Pt (pc + 1) L (sV g a :: st) h) : Pt pc L st h := s_aload_n A k hdg hL kk
theorem s_istore_n (A : Amb g cc own d nL rt Pt En) {j : Fin 4} {z : Int} {L' : List (Nat × Value)} (hdg : decode cc pc = .ok (.istore_n j, 1)) (hn : (j : Nat) < nL) (hL : ((j : Nat), iV z) :: L.filter (fun q => !(q.1 == (j : Nat)) && !(q.1 + 1 == (j : Nat) && q.2.category == 2)) = L') (kk : Pt (pc + 1) L' st h) : Pt pc L (iV z :: st) h := by
  obtain ⟨p, e, R, s, m, args, below, meth, c, nc, ns, Q, ⟨hx, hb, hml, hown, hts⟩, hK, hR, hret, rfl⟩ := A
  intro ls H locs hl hP hS
  exact lv_istore_n hx hb hdg rfl hl hn hL (fun ls' hl' => kk ls' H locs hl' hP hS)
theorem s_istore (A : Amb g cc own d nL rt Pt En) {j : Nat} {z : Int} {L' : List (Nat × Value)} (hdg : decode cc pc = .ok (.istore j, 2)) (hn : j < nL) (hL : (j, iV z) :: L.filter (fun q => !(q.1 == j) && !(q.1 + 1 == j && q.2.category == 2)) = L') (kk : Pt (pc + 2) L' st h) : Pt pc L (iV z :: st) h := by
  obtain ⟨p, e, R, s, m, args, below, meth, c, nc, ns, Q, ⟨hx, hb, hml, hown, hts⟩, hK, hR, hret, rfl⟩ := A
  intro ls H locs hl hP hS
  exact lv_istore hx hb hdg hl hn hL (fun ls' hl' => kk ls' H locs hl' hP hS)
theorem s_lstore_n (A : Amb g cc own d nL rt Pt En) {j : Fin 4} {z : Int} {L' : List (Nat × Value)} (hdg : decode cc pc = .ok (.lstore_n j, 1)) (hn : (j : Nat) + 1 < nL) (hL : ((j : Nat), lV z) :: L.filter (fun q => !(q.1 == (j : Nat)) && (!(q.1 == (j : Nat) + 1) && !(q.1 + 1 == (j : Nat) && q.2.category == 2))) = L') (kk : Pt (pc + 1) L' st h) : Pt pc L (lV z :: st) h := by
  obtain ⟨p, e, R, s, m, args, below, meth, c, nc, ns, Q, ⟨hx, hb, hml, hown, hts⟩, hK, hR, hret, rfl⟩ := A
  intro ls H locs hl hP hS
  exact lv_lstore_n hx hb hdg rfl hl hn hL (fun ls' hl' => kk ls' H locs hl' hP hS)
theorem s_lstore (A : Amb g cc own d nL rt Pt En) {j : Nat} {z : Int} {L' : List (Nat × Value)} (hdg : decode cc pc = .ok (.lstore j, 2)) (hn : j + 1 < nL) (hL : (j, lV z) :: L.filter (fun q => !(q.1 == j) && (!(q.1 == j + 1) && !(q.1 + 1 == j && q.2.category == 2))) = L') (kk : Pt (pc + 2) L' st h) : Pt pc L (lV z :: st) h := by
  obtain ⟨p, e, R, s, m, args, below, meth, c, nc, ns, Q, ⟨hx, hb, hml, hown, hts⟩, hK, hR, hret, rfl⟩ := A
  intro ls H locs hl hP hS
  exact lv_lstore hx hb hdg hl hn hL (fun ls' hl' => kk ls' H locs hl' hP hS)
theorem s_astore_n (A : Amb g cc own d nL rt Pt En) {j : Fin 4} {z : Nat} {L' : List (Nat × Value)} (hdg : decode cc pc = .ok (.astore_n j, 1)) (hn : (j : Nat) < nL) (hL : ((j : Nat), rV g z) :: L.filter (fun q => !(q.1 == (j : Nat)) && !(q.1 + 1 == (j : Nat) && q.2.category == 2)) = L') (kk : Pt (pc + 1) L' st h) : Pt pc L (rV g z :: st) h := by
  obtain ⟨p, e, R, s, m, args, below, meth, c, nc, ns, Q, ⟨hx, hb, hml, hown, hts⟩, hK, hR, hret, rfl⟩ := A
  intro ls H locs hl hP hS
  exact lv_astore_n hx hb hdg rfl hl hn hL (fun ls' hl' => kk ls' H locs hl' hP hS)
theorem s_astore (A : Amb g cc own d nL rt Pt En) {j : Nat} {z : Nat} {L' : List (Nat × Value)} (hdg : decode cc pc = .ok (.astore j, 2)) (hn : j < nL) (hL : (j, rV g z) :: L.filter (fun q => !(q.1 == j) && !(q.1 + 1 == j && q.2.category == 2)) = L') (kk : Pt (pc + 2) L' st h) : Pt pc L (rV g z :: st) h := by
  obtain ⟨p, e, R, s, m, args, below, meth, c, nc, ns, Q, ⟨hx, hb, hml, hown, hts⟩, hK, hR, hret, rfl⟩ := A
  intro ls H locs hl hP hS
  exact lv_astore hx hb hdg hl hn hL (fun ls' hl' => kk ls' H locs hl' hP hS)
theorem s_iinc (A : Amb g cc own d nL rt Pt En) {j : Nat} {z n : Int} {L' : List (Nat × Value)} (k : Nat) (hdg : decode cc pc = .ok (.iinc j n, 3)) (hk : L[k]? = some (j, iV z)) (hn : j < nL) (hL : (j, iV (z + n)) :: L.filter (fun q => !(q.1 == j) && !(q.1 + 1 == j && q.2.category == 2)) = L') (kk : Pt (pc + 3) L' st h) : Pt pc L st h := by
  obtain ⟨p, e, R, s, m, args, below, meth, c, nc, ns, Q, ⟨hx, hb, hml, hown, hts⟩, hK, hR, hret, rfl⟩ := A
  intro ls H locs hl hP hS
  exact lv_iinc hx hb hdg hl hk (Int32.ofInt_add z n).symm hn hL (fun ls' hl' => kk ls' H locs hl' hP hS)
theorem s_loc (A : Amb g cc own d nL rt Pt En) {L' : List (Nat × Value)} (ks : List Nat) (hL : lv_pick L ks = L') (kk : Pt pc L' st h) : Pt pc L st h := by
  obtain ⟨p, e, R, s, m, args, below, meth, c, nc, ns, Q, ⟨hx, hb, hml, hown, hts⟩, hK, hR, hret, rfl⟩ := A
  intro ls H locs hl hP hS
  exact kk ls H locs (lv_sub hl ks hL) hP hS
theorem s_iadd (A : Amb g cc own d nL rt Pt En) {a b : Int} (hdg : decode cc pc = .ok (.iadd, 1)) (kk : Pt (pc + 1) L (iV (a + b) :: st) h) : Pt pc L (iV b :: iV a :: st) h := by
  obtain ⟨p, e, R, s, m, args, below, meth, c, nc, ns, Q, ⟨hx, hb, hml, hown, hts⟩, hK, hR, hret, rfl⟩ := A
  intro ls H locs hl hP hS
  refine lv_iadd hx hb hdg ?_
  have k1 := kk ls H locs hl hP hS
  unfold iV at k1
  rw [show Int32.ofInt (a + b) = _ from Int32.ofInt_add a b] at k1
  exact k1
theorem s_isub (A : Amb g cc own d nL rt Pt En) {a b : Int} (hdg : decode cc pc = .ok (.isub, 1)) (kk : Pt (pc + 1) L (iV (a - b) :: st) h) : Pt pc L (iV b :: iV a :: st) h := by
  obtain ⟨p, e, R, s, m, args, below, meth, c, nc, ns, Q, ⟨hx, hb, hml, hown, hts⟩, hK, hR, hret, rfl⟩ := A
  intro ls H locs hl hP hS
  refine lv_isub hx hb hdg ?_
  have k1 := kk ls H locs hl hP hS
  unfold iV at k1
  rw [show Int32.ofInt (a - b) = _ from Int32.ofInt_sub a b] at k1
  exact k1
theorem s_imul (A : Amb g cc own d nL rt Pt En) {a b : Int} (hdg : decode cc pc = .ok (.imul, 1)) (kk : Pt (pc + 1) L (iV (a * b) :: st) h) : Pt pc L (iV b :: iV a :: st) h := by
  obtain ⟨p, e, R, s, m, args, below, meth, c, nc, ns, Q, ⟨hx, hb, hml, hown, hts⟩, hK, hR, hret, rfl⟩ := A
  intro ls H locs hl hP hS
  refine lv_imul hx hb hdg ?_
  have k1 := kk ls H locs hl hP hS
  unfold iV at k1
  rw [show Int32.ofInt (a * b) = _ from Int32.ofInt_mul a b] at k1
  exact k1
theorem s_iand (A : Amb g cc own d nL rt Pt En) {a b : Int} (hdg : decode cc pc = .ok (.iand, 1)) (kk : Pt (pc + 1) L (iV (iand a b) :: st) h) : Pt pc L (iV b :: iV a :: st) h := by
  obtain ⟨p, e, R, s, m, args, below, meth, c, nc, ns, Q, ⟨hx, hb, hml, hown, hts⟩, hK, hR, hret, rfl⟩ := A
  intro ls H locs hl hP hS
  refine lv_iand hx hb hdg ?_
  have k1 := kk ls H locs hl hP hS
  unfold iV at k1
  rw [show Int32.ofInt (iand a b) = _ from oi_t _] at k1
  exact k1
theorem s_ior (A : Amb g cc own d nL rt Pt En) {a b : Int} (hdg : decode cc pc = .ok (.ior, 1)) (kk : Pt (pc + 1) L (iV (ior a b) :: st) h) : Pt pc L (iV b :: iV a :: st) h := by
  obtain ⟨p, e, R, s, m, args, below, meth, c, nc, ns, Q, ⟨hx, hb, hml, hown, hts⟩, hK, hR, hret, rfl⟩ := A
  intro ls H locs hl hP hS
  refine lv_ior hx hb hdg ?_
  have k1 := kk ls H locs hl hP hS
  unfold iV at k1
  rw [show Int32.ofInt (ior a b) = _ from oi_t _] at k1
  exact k1
theorem s_ixor (A : Amb g cc own d nL rt Pt En) {a b : Int} (hdg : decode cc pc = .ok (.ixor, 1)) (kk : Pt (pc + 1) L (iV (ixor a b) :: st) h) : Pt pc L (iV b :: iV a :: st) h := by
  obtain ⟨p, e, R, s, m, args, below, meth, c, nc, ns, Q, ⟨hx, hb, hml, hown, hts⟩, hK, hR, hret, rfl⟩ := A
  intro ls H locs hl hP hS
  refine lv_ixor hx hb hdg ?_
  have k1 := kk ls H locs hl hP hS
  unfold iV at k1
  rw [show Int32.ofInt (ixor a b) = _ from oi_t _] at k1
  exact k1
theorem s_ishl (A : Amb g cc own d nL rt Pt En) {a b : Int} (hdg : decode cc pc = .ok (.ishl, 1)) (kk : Pt (pc + 1) L (iV (ishl a b) :: st) h) : Pt pc L (iV b :: iV a :: st) h := by
  obtain ⟨p, e, R, s, m, args, below, meth, c, nc, ns, Q, ⟨hx, hb, hml, hown, hts⟩, hK, hR, hret, rfl⟩ := A
  intro ls H locs hl hP hS
  refine lv_ishl hx hb hdg ?_
  have k1 := kk ls H locs hl hP hS
  unfold iV at k1
  rw [show Int32.ofInt (ishl a b) = _ from oi_t _] at k1
  exact k1
theorem s_ishr (A : Amb g cc own d nL rt Pt En) {a b : Int} (hdg : decode cc pc = .ok (.ishr, 1)) (kk : Pt (pc + 1) L (iV (ishr a b) :: st) h) : Pt pc L (iV b :: iV a :: st) h := by
  obtain ⟨p, e, R, s, m, args, below, meth, c, nc, ns, Q, ⟨hx, hb, hml, hown, hts⟩, hK, hR, hret, rfl⟩ := A
  intro ls H locs hl hP hS
  refine lv_ishr hx hb hdg ?_
  have k1 := kk ls H locs hl hP hS
  unfold iV at k1
  rw [show Int32.ofInt (ishr a b) = _ from oi_t _] at k1
  exact k1
theorem s_idiv (A : Amb g cc own d nL rt Pt En) {a b : Int} (hne : wr b ≠ 0) (hdg : decode cc pc = .ok (.idiv, 1)) (kk : Pt (pc + 1) L (iV (idv a b) :: st) h) : Pt pc L (iV b :: iV a :: st) h := by
  obtain ⟨p, e, R, s, m, args, below, meth, c, nc, ns, Q, ⟨hx, hb, hml, hown, hts⟩, hK, hR, hret, rfl⟩ := A
  intro ls H locs hl hP hS
  refine lv_idiv hx hb hdg (fun q => hne (by show (Int32.ofInt b).toInt = 0; rw [q]; rfl)) ?_
  have k1 := kk ls H locs hl hP hS
  unfold iV at k1
  rw [show Int32.ofInt (idv a b) = _ from oi_t _] at k1
  exact k1
theorem s_irem (A : Amb g cc own d nL rt Pt En) {a b : Int} (hne : wr b ≠ 0) (hdg : decode cc pc = .ok (.irem, 1)) (kk : Pt (pc + 1) L (iV (irm a b) :: st) h) : Pt pc L (iV b :: iV a :: st) h := by
  obtain ⟨p, e, R, s, m, args, below, meth, c, nc, ns, Q, ⟨hx, hb, hml, hown, hts⟩, hK, hR, hret, rfl⟩ := A
  intro ls H locs hl hP hS
  refine lv_irem hx hb hdg (fun q => hne (by show (Int32.ofInt b).toInt = 0; rw [q]; rfl)) ?_
  have k1 := kk ls H locs hl hP hS
  unfold iV at k1
  rw [show Int32.ofInt (irm a b) = _ from oi_t _] at k1
  exact k1
theorem s_ineg (A : Amb g cc own d nL rt Pt En) {a : Int} (hdg : decode cc pc = .ok (.ineg, 1)) (kk : Pt (pc + 1) L (iV (-a) :: st) h) : Pt pc L (iV a :: st) h := by
  obtain ⟨p, e, R, s, m, args, below, meth, c, nc, ns, Q, ⟨hx, hb, hml, hown, hts⟩, hK, hR, hret, rfl⟩ := A
  intro ls H locs hl hP hS
  refine lv_ineg hx hb hdg ?_
  have k1 := kk ls H locs hl hP hS
  unfold iV at k1
  rw [show Int32.ofInt (-a) = _ from Int32.ofInt_neg a] at k1
  exact k1
theorem s_iushr (A : Amb g cc own d nL rt Pt En) {a b : Int} (hdg : decode cc pc = .ok (.iushr, 1)) (kk : Pt (pc + 1) L (iV (iushr a b) :: st) h) : Pt pc L (iV b :: iV a :: st) h := by
  obtain ⟨p, e, R, s, m, args, below, meth, c, nc, ns, Q, ⟨hx, hb, hml, hown, hts⟩, hK, hR, hret, rfl⟩ := A
  intro ls H locs hl hP hS
  exact lv_iushr hx hb hdg (oi_t _).symm (kk ls H locs hl hP hS)
theorem s_ladd (A : Amb g cc own d nL rt Pt En) {a b : Int} (hdg : decode cc pc = .ok (.ladd, 1)) (kk : Pt (pc + 1) L (lV (a + b) :: st) h) : Pt pc L (lV b :: lV a :: st) h := by
  obtain ⟨p, e, R, s, m, args, below, meth, c, nc, ns, Q, ⟨hx, hb, hml, hown, hts⟩, hK, hR, hret, rfl⟩ := A
  intro ls H locs hl hP hS
  refine lv_ladd hx hb hdg ?_
  have k1 := kk ls H locs hl hP hS
  unfold lV at k1
  rw [show Int64.ofInt (a + b) = _ from Int64.ofInt_add a b] at k1
  exact k1
theorem s_lsub (A : Amb g cc own d nL rt Pt En) {a b : Int} (hdg : decode cc pc = .ok (.lsub, 1)) (kk : Pt (pc + 1) L (lV (a - b) :: st) h) : Pt pc L (lV b :: lV a :: st) h := by
  obtain ⟨p, e, R, s, m, args, below, meth, c, nc, ns, Q, ⟨hx, hb, hml, hown, hts⟩, hK, hR, hret, rfl⟩ := A
  intro ls H locs hl hP hS
  refine lv_lsub hx hb hdg ?_
  have k1 := kk ls H locs hl hP hS
  unfold lV at k1
  rw [show Int64.ofInt (a - b) = _ from Int64.ofInt_sub a b] at k1
  exact k1
theorem s_lmul (A : Amb g cc own d nL rt Pt En) {a b : Int} (hdg : decode cc pc = .ok (.lmul, 1)) (kk : Pt (pc + 1) L (lV (a * b) :: st) h) : Pt pc L (lV b :: lV a :: st) h := by
  obtain ⟨p, e, R, s, m, args, below, meth, c, nc, ns, Q, ⟨hx, hb, hml, hown, hts⟩, hK, hR, hret, rfl⟩ := A
  intro ls H locs hl hP hS
  refine lv_lmul hx hb hdg ?_
  have k1 := kk ls H locs hl hP hS
  unfold lV at k1
  rw [show Int64.ofInt (a * b) = _ from Int64.ofInt_mul a b] at k1
  exact k1
theorem s_land (A : Amb g cc own d nL rt Pt En) {a b : Int} (hdg : decode cc pc = .ok (.land, 1)) (kk : Pt (pc + 1) L (lV (land64 a b) :: st) h) : Pt pc L (lV b :: lV a :: st) h := by
  obtain ⟨p, e, R, s, m, args, below, meth, c, nc, ns, Q, ⟨hx, hb, hml, hown, hts⟩, hK, hR, hret, rfl⟩ := A
  intro ls H locs hl hP hS
  refine lv_land hx hb hdg ?_
  have k1 := kk ls H locs hl hP hS
  unfold lV at k1
  rw [show Int64.ofInt (land64 a b) = _ from ol_t _] at k1
  exact k1
theorem s_lor (A : Amb g cc own d nL rt Pt En) {a b : Int} (hdg : decode cc pc = .ok (.lor, 1)) (kk : Pt (pc + 1) L (lV (lor64 a b) :: st) h) : Pt pc L (lV b :: lV a :: st) h := by
  obtain ⟨p, e, R, s, m, args, below, meth, c, nc, ns, Q, ⟨hx, hb, hml, hown, hts⟩, hK, hR, hret, rfl⟩ := A
  intro ls H locs hl hP hS
  refine lv_lor hx hb hdg ?_
  have k1 := kk ls H locs hl hP hS
  unfold lV at k1
  rw [show Int64.ofInt (lor64 a b) = _ from ol_t _] at k1
  exact k1
theorem s_ldiv (A : Amb g cc own d nL rt Pt En) {a b : Int} (hne : wl b ≠ 0) (hdg : decode cc pc = .ok (.ldiv, 1)) (kk : Pt (pc + 1) L (lV (ldv a b) :: st) h) : Pt pc L (lV b :: lV a :: st) h := by
  obtain ⟨p, e, R, s, m, args, below, meth, c, nc, ns, Q, ⟨hx, hb, hml, hown, hts⟩, hK, hR, hret, rfl⟩ := A
  intro ls H locs hl hP hS
  refine lv_ldiv hx hb hdg (fun q => hne (by show (Int64.ofInt b).toInt = 0; rw [q]; rfl)) ?_
  have k1 := kk ls H locs hl hP hS
  unfold lV at k1
  rw [show Int64.ofInt (ldv a b) = _ from ol_t _] at k1
  exact k1
theorem s_lrem (A : Amb g cc own d nL rt Pt En) {a b : Int} (hne : wl b ≠ 0) (hdg : decode cc pc = .ok (.lrem, 1)) (kk : Pt (pc + 1) L (lV (lrm a b) :: st) h) : Pt pc L (lV b :: lV a :: st) h := by
  obtain ⟨p, e, R, s, m, args, below, meth, c, nc, ns, Q, ⟨hx, hb, hml, hown, hts⟩, hK, hR, hret, rfl⟩ := A
  intro ls H locs hl hP hS
  refine lv_lrem hx hb hdg (fun q => hne (by show (Int64.ofInt b).toInt = 0; rw [q]; rfl)) ?_
  have k1 := kk ls H locs hl hP hS
  unfold lV at k1
  rw [show Int64.ofInt (lrm a b) = _ from ol_t _] at k1
  exact k1
theorem i2l_eq (a : Int) : (Int32.ofInt a).toInt64 = Int64.ofInt (wr a) := by
  show _ = Int64.ofInt (Int32.ofInt a).toInt
  exact (Int64.ofInt_int32ToInt (Int32.ofInt a)).symm
theorem l2i_eq (a : Int) : (Int64.ofInt a).toInt32 = Int32.ofInt a := by
  rw [← Int32.toInt_inj, Int64.toInt_toInt32, Int64.toInt_ofInt, Int32.toInt_ofInt, Int.bmod_bmod_of_dvd (by decide)]
theorem s_i2l (A : Amb g cc own d nL rt Pt En) {a : Int} (hdg : decode cc pc = .ok (.i2l, 1)) (kk : Pt (pc + 1) L (lV (wr a) :: st) h) : Pt pc L (iV a :: st) h := by
  obtain ⟨p, e, R, s, m, args, below, meth, c, nc, ns, Q, ⟨hx, hb, hml, hown, hts⟩, hK, hR, hret, rfl⟩ := A
  intro ls H locs hl hP hS
  exact lv_i2l hx hb hdg (i2l_eq a) (kk ls H locs hl hP hS)
theorem s_l2i (A : Amb g cc own d nL rt Pt En) {a : Int} (hdg : decode cc pc = .ok (.l2i, 1)) (kk : Pt (pc + 1) L (iV a :: st) h) : Pt pc L (lV a :: st) h := by
  obtain ⟨p, e, R, s, m, args, below, meth, c, nc, ns, Q, ⟨hx, hb, hml, hown, hts⟩, hK, hR, hret, rfl⟩ := A
  intro ls H locs hl hP hS
  exact lv_l2i hx hb hdg (l2i_eq a) (kk ls H locs hl hP hS)
theorem s_i2b (A : Amb g cc own d nL rt Pt En) {a : Int} (hdg : decode cc pc = .ok (.i2b, 1)) (kk : Pt (pc + 1) L (iV (w8 a) :: st) h) : Pt pc L (iV a :: st) h := by
  obtain ⟨p, e, R, s, m, args, below, meth, c, nc, ns, Q, ⟨hx, hb, hml, hown, hts⟩, hK, hR, hret, rfl⟩ := A
  intro ls H locs hl hP hS
  exact lv_i2b hx hb hdg (oi_t _).symm (kk ls H locs hl hP hS)
theorem s_i2s (A : Amb g cc own d nL rt Pt En) {a : Int} (hdg : decode cc pc = .ok (.i2s, 1)) (kk : Pt (pc + 1) L (iV (w16 a) :: st) h) : Pt pc L (iV a :: st) h := by
  obtain ⟨p, e, R, s, m, args, below, meth, c, nc, ns, Q, ⟨hx, hb, hml, hown, hts⟩, hK, hR, hret, rfl⟩ := A
  intro ls H locs hl hP hS
  exact lv_i2s hx hb hdg (oi_t _).symm (kk ls H locs hl hP hS)
theorem s_lshl (A : Amb g cc own d nL rt Pt En) {a b : Int} (hdg : decode cc pc = .ok (.lshl, 1)) (kk : Pt (pc + 1) L (lV (lshl64 a b) :: st) h) : Pt pc L (iV b :: lV a :: st) h := by
  obtain ⟨p, e, R, s, m, args, below, meth, c, nc, ns, Q, ⟨hx, hb, hml, hown, hts⟩, hK, hR, hret, rfl⟩ := A
  intro ls H locs hl hP hS
  exact lv_lshl hx hb hdg (ol_t _).symm (kk ls H locs hl hP hS)
theorem s_dup (A : Amb g cc own d nL rt Pt En) {v : Value} (hdg : decode cc pc = .ok (.dup, 1)) (hv : v.category = 1) (kk : Pt (pc + 1) L (v :: v :: st) h) : Pt pc L (v :: st) h := by
  obtain ⟨p, e, R, s, m, args, below, meth, c, nc, ns, Q, ⟨hx, hb, hml, hown, hts⟩, hK, hR, hret, rfl⟩ := A
  intro ls H locs hl hP hS
  exact lv_dup hx hb hdg hv (kk ls H locs hl hP hS)
theorem s_pop (A : Amb g cc own d nL rt Pt En) {v : Value} (hdg : decode cc pc = .ok (.pop, 1)) (hv : v.category = 1) (kk : Pt (pc + 1) L st h) : Pt pc L (v :: st) h := by
  obtain ⟨p, e, R, s, m, args, below, meth, c, nc, ns, Q, ⟨hx, hb, hml, hown, hts⟩, hK, hR, hret, rfl⟩ := A
  intro ls H locs hl hP hS
  exact lv_pop hx hb hdg hv (kk ls H locs hl hP hS)
theorem s_dup2 (A : Amb g cc own d nL rt Pt En) {v w : Value} (hdg : decode cc pc = .ok (.dup2, 1)) (hv : v.category = 1) (hw : w.category = 1) (kk : Pt (pc + 1) L (v :: w :: v :: w :: st) h) : Pt pc L (v :: w :: st) h := by
  obtain ⟨p, e, R, s, m, args, below, meth, c, nc, ns, Q, ⟨hx, hb, hml, hown, hts⟩, hK, hR, hret, rfl⟩ := A
  intro ls H locs hl hP hS
  exact lv_dup2_11 hx hb hdg hv hw (kk ls H locs hl hP hS)
theorem s_goto (A : Amb g cc own d nL rt Pt En) {off : Int} {tgt : Nat} (hdg : decode cc pc = .ok (.goto off, 3)) (ht : (pc : Int) + off = (tgt : Int)) (kk : Pt tgt L st h) : Pt pc L st h := by
  obtain ⟨p, e, R, s, m, args, below, meth, c, nc, ns, Q, ⟨hx, hb, hml, hown, hts⟩, hK, hR, hret, rfl⟩ := A
  intro ls H locs hl hP hS
  exact lv_goto hx hb hdg ht (kk ls H locs hl hP hS)
theorem z_lt (a b : Int) : Int32.ofInt a < Int32.ofInt b ↔ wr a < wr b := Int32.lt_iff_toInt_lt
theorem z_le (a b : Int) : Int32.ofInt a ≤ Int32.ofInt b ↔ wr a ≤ wr b := Int32.le_iff_toInt_le
theorem z_eq (a b : Int) : Int32.ofInt a = Int32.ofInt b ↔ wr a = wr b := Int32.toInt_inj.symm
theorem z_0 : wr 0 = 0 := rfl
theorem zl_lt (a b : Int) : Int64.ofInt a < Int64.ofInt b ↔ wl a < wl b := Int64.lt_iff_toInt_lt
theorem zl_le (a b : Int) : Int64.ofInt a ≤ Int64.ofInt b ↔ wl a ≤ wl b := Int64.le_iff_toInt_le
theorem zl_eq (a b : Int) : Int64.ofInt a = Int64.ofInt b ↔ wl a = wl b := Int64.toInt_inj.symm
theorem s_icmp_ge (A : Amb g cc own d nL rt Pt En) {a b : Int} {off : Int} {tgt : Nat} (hdg : decode cc pc = .ok (.if_icmp .ge off, 3)) (ht : (pc : Int) + off = (tgt : Int)) (k1 : wr a < wr b → Pt (pc + 3) L st h) (k2 : ¬ wr a < wr b → Pt (tgt) L st h) : Pt pc L (iV b :: iV a :: st) h := by
  obtain ⟨p, e, R, s, m, args, below, meth, c, nc, ns, Q, ⟨hx, hb, hml, hown, hts⟩, hK, hR, hret, rfl⟩ := A
  intro ls H locs hl hP hS
  refine lv_icmp_ge hx hb hdg ht (fun q => k2 (fun w => ?_) ls H locs hl hP hS) (fun q => k1 ?_ ls H locs hl hP hS)
  · have q' := (z_le b a).mp q
    omega
  · have q' : ¬ (wr b ≤ wr a) := fun w => q ((z_le b a).mpr w)
    omega
theorem s_icmp_gt (A : Amb g cc own d nL rt Pt En) {a b : Int} {off : Int} {tgt : Nat} (hdg : decode cc pc = .ok (.if_icmp .gt off, 3)) (ht : (pc : Int) + off = (tgt : Int)) (k1 : wr a ≤ wr b → Pt (pc + 3) L st h) (k2 : ¬ wr a ≤ wr b → Pt (tgt) L st h) : Pt pc L (iV b :: iV a :: st) h := by
  obtain ⟨p, e, R, s, m, args, below, meth, c, nc, ns, Q, ⟨hx, hb, hml, hown, hts⟩, hK, hR, hret, rfl⟩ := A
  intro ls H locs hl hP hS
  refine lv_icmp_gt hx hb hdg ht (fun q => k2 (fun w => ?_) ls H locs hl hP hS) (fun q => k1 ?_ ls H locs hl hP hS)
  · have q' := (z_lt b a).mp q
    omega
  · have q' : ¬ (wr b < wr a) := fun w => q ((z_lt b a).mpr w)
    omega
theorem s_icmp_le (A : Amb g cc own d nL rt Pt En) {a b : Int} {off : Int} {tgt : Nat} (hdg : decode cc pc = .ok (.if_icmp .le off, 3)) (ht : (pc : Int) + off = (tgt : Int)) (k1 : wr b < wr a → Pt (pc + 3) L st h) (k2 : ¬ wr b < wr a → Pt (tgt) L st h) : Pt pc L (iV b :: iV a :: st) h := by
  obtain ⟨p, e, R, s, m, args, below, meth, c, nc, ns, Q, ⟨hx, hb, hml, hown, hts⟩, hK, hR, hret, rfl⟩ := A
  intro ls H locs hl hP hS
  refine lv_icmp_le hx hb hdg ht (fun q => k2 (fun w => ?_) ls H locs hl hP hS) (fun q => k1 ?_ ls H locs hl hP hS)
  · have q' := (z_le a b).mp q
    omega
  · have q' : ¬ (wr a ≤ wr b) := fun w => q ((z_le a b).mpr w)
    omega
theorem s_icmp_lt (A : Amb g cc own d nL rt Pt En) {a b : Int} {off : Int} {tgt : Nat} (hdg : decode cc pc = .ok (.if_icmp .lt off, 3)) (ht : (pc : Int) + off = (tgt : Int)) (k1 : wr b ≤ wr a → Pt (pc + 3) L st h) (k2 : ¬ wr b ≤ wr a → Pt (tgt) L st h) : Pt pc L (iV b :: iV a :: st) h := by
  obtain ⟨p, e, R, s, m, args, below, meth, c, nc, ns, Q, ⟨hx, hb, hml, hown, hts⟩, hK, hR, hret, rfl⟩ := A
  intro ls H locs hl hP hS
  refine lv_icmp_lt hx hb hdg ht (fun q => k2 (fun w => ?_) ls H locs hl hP hS) (fun q => k1 ?_ ls H locs hl hP hS)
  · have q' := (z_lt a b).mp q
    omega
  · have q' : ¬ (wr a < wr b) := fun w => q ((z_lt a b).mpr w)
    omega
theorem s_icmp_ne (A : Amb g cc own d nL rt Pt En) {a b : Int} {off : Int} {tgt : Nat} (hdg : decode cc pc = .ok (.if_icmp .ne off, 3)) (ht : (pc : Int) + off = (tgt : Int)) (k1 : wr a = wr b → Pt (pc + 3) L st h) (k2 : ¬ wr a = wr b → Pt (tgt) L st h) : Pt pc L (iV b :: iV a :: st) h := by
  obtain ⟨p, e, R, s, m, args, below, meth, c, nc, ns, Q, ⟨hx, hb, hml, hown, hts⟩, hK, hR, hret, rfl⟩ := A
  intro ls H locs hl hP hS
  exact lv_icmp_ne hx hb hdg ht (fun q => k2 (fun w => q ((z_eq a b).mpr w)) ls H locs hl hP hS) (fun q => k1 ((z_eq a b).mp q) ls H locs hl hP hS)
theorem s_icmp_eq (A : Amb g cc own d nL rt Pt En) {a b : Int} {off : Int} {tgt : Nat} (hdg : decode cc pc = .ok (.if_icmp .eq off, 3)) (ht : (pc : Int) + off = (tgt : Int)) (k1 : wr a = wr b → Pt (tgt) L st h) (k2 : ¬ wr a = wr b → Pt (pc + 3) L st h) : Pt pc L (iV b :: iV a :: st) h := by
  obtain ⟨p, e, R, s, m, args, below, meth, c, nc, ns, Q, ⟨hx, hb, hml, hown, hts⟩, hK, hR, hret, rfl⟩ := A
  intro ls H locs hl hP hS
  exact lv_icmp_eq hx hb hdg ht (fun q => k1 ((z_eq a b).mp q) ls H locs hl hP hS) (fun q => k2 (fun w => q ((z_eq a b).mpr w)) ls H locs hl hP hS)
theorem s_if_ge (A : Amb g cc own d nL rt Pt En) {a : Int} {off : Int} {tgt : Nat} (hdg : decode cc pc = .ok (.ifCond .ge off, 3)) (ht : (pc : Int) + off = (tgt : Int)) (k1 : wr a < 0 → Pt (pc + 3) L st h) (k2 : ¬ wr a < 0 → Pt (tgt) L st h) : Pt pc L (iV a :: st) h := by
  obtain ⟨p, e, R, s, m, args, below, meth, c, nc, ns, Q, ⟨hx, hb, hml, hown, hts⟩, hK, hR, hret, rfl⟩ := A
  intro ls H locs hl hP hS
  have z0 := z_0
  refine lv_if_ge hx hb hdg ht (fun q => k2 (fun w => ?_) ls H locs hl hP hS) (fun q => k1 ?_ ls H locs hl hP hS)
  · have q' := (z_le 0 a).mp q
    omega
  · have q' : ¬ (wr 0 ≤ wr a) := fun w => q ((z_le 0 a).mpr w)
    omega
theorem s_if_gt (A : Amb g cc own d nL rt Pt En) {a : Int} {off : Int} {tgt : Nat} (hdg : decode cc pc = .ok (.ifCond .gt off, 3)) (ht : (pc : Int) + off = (tgt : Int)) (k1 : wr a ≤ 0 → Pt (pc + 3) L st h) (k2 : ¬ wr a ≤ 0 → Pt (tgt) L st h) : Pt pc L (iV a :: st) h := by
  obtain ⟨p, e, R, s, m, args, below, meth, c, nc, ns, Q, ⟨hx, hb, hml, hown, hts⟩, hK, hR, hret, rfl⟩ := A
  intro ls H locs hl hP hS
  have z0 := z_0
  refine lv_if_gt hx hb hdg ht (fun q => k2 (fun w => ?_) ls H locs hl hP hS) (fun q => k1 ?_ ls H locs hl hP hS)
  · have q' := (z_lt 0 a).mp q
    omega
  · have q' : ¬ (wr 0 < wr a) := fun w => q ((z_lt 0 a).mpr w)
    omega
theorem s_if_le (A : Amb g cc own d nL rt Pt En) {a : Int} {off : Int} {tgt : Nat} (hdg : decode cc pc = .ok (.ifCond .le off, 3)) (ht : (pc : Int) + off = (tgt : Int)) (k1 : 0 < wr a → Pt (pc + 3) L st h) (k2 : ¬ 0 < wr a → Pt (tgt) L st h) : Pt pc L (iV a :: st) h := by
  obtain ⟨p, e, R, s, m, args, below, meth, c, nc, ns, Q, ⟨hx, hb, hml, hown, hts⟩, hK, hR, hret, rfl⟩ := A
  intro ls H locs hl hP hS
  have z0 := z_0
  refine lv_if_le hx hb hdg ht (fun q => k2 (fun w => ?_) ls H locs hl hP hS) (fun q => k1 ?_ ls H locs hl hP hS)
  · have q' := (z_le a 0).mp q
    omega
  · have q' : ¬ (wr a ≤ wr 0) := fun w => q ((z_le a 0).mpr w)
    omega
theorem s_if_lt (A : Amb g cc own d nL rt Pt En) {a : Int} {off : Int} {tgt : Nat} (hdg : decode cc pc = .ok (.ifCond .lt off, 3)) (ht : (pc : Int) + off = (tgt : Int)) (k1 : 0 ≤ wr a → Pt (pc + 3) L st h) (k2 : ¬ 0 ≤ wr a → Pt (tgt) L st h) : Pt pc L (iV a :: st) h := by
  obtain ⟨p, e, R, s, m, args, below, meth, c, nc, ns, Q, ⟨hx, hb, hml, hown, hts⟩, hK, hR, hret, rfl⟩ := A
  intro ls H locs hl hP hS
  have z0 := z_0
  refine lv_if_lt hx hb hdg ht (fun q => k2 (fun w => ?_) ls H locs hl hP hS) (fun q => k1 ?_ ls H locs hl hP hS)
  · have q' := (z_lt a 0).mp q
    omega
  · have q' : ¬ (wr a < wr 0) := fun w => q ((z_lt a 0).mpr w)
    omega
theorem s_if_ne (A : Amb g cc own d nL rt Pt En) {a : Int} {off : Int} {tgt : Nat} (hdg : decode cc pc = .ok (.ifCond .ne off, 3)) (ht : (pc : Int) + off = (tgt : Int)) (k1 : wr a = 0 → Pt (pc + 3) L st h) (k2 : ¬ wr a = 0 → Pt (tgt) L st h) : Pt pc L (iV a :: st) h := by
  obtain ⟨p, e, R, s, m, args, below, meth, c, nc, ns, Q, ⟨hx, hb, hml, hown, hts⟩, hK, hR, hret, rfl⟩ := A
  intro ls H locs hl hP hS
  have z0 := z_0
  exact lv_if_ne hx hb hdg ht (fun q => k2 (fun w => q ((z_eq a 0).mpr w)) ls H locs hl hP hS) (fun q => k1 ((z_eq a 0).mp q) ls H locs hl hP hS)
theorem s_if_eq (A : Amb g cc own d nL rt Pt En) {a : Int} {off : Int} {tgt : Nat} (hdg : decode cc pc = .ok (.ifCond .eq off, 3)) (ht : (pc : Int) + off = (tgt : Int)) (k1 : wr a = 0 → Pt (tgt) L st h) (k2 : ¬ wr a = 0 → Pt (pc + 3) L st h) : Pt pc L (iV a :: st) h := by
  obtain ⟨p, e, R, s, m, args, below, meth, c, nc, ns, Q, ⟨hx, hb, hml, hown, hts⟩, hK, hR, hret, rfl⟩ := A
  intro ls H locs hl hP hS
  have z0 := z_0
  exact lv_if_eq hx hb hdg ht (fun q => k1 ((z_eq a 0).mp q) ls H locs hl hP hS) (fun q => k2 (fun w => q ((z_eq a 0).mpr w)) ls H locs hl hP hS)
theorem s_lcmp_ge (A : Amb g cc own d nL rt Pt En) {a b : Int} {off : Int} {tgt : Nat} (hd0 : decode cc pc = .ok (.lcmp, 1)) (hdg : decode cc (pc + 1) = .ok (.ifCond .ge off, 3)) (ht : ((pc + 1 : Nat) : Int) + off = (tgt : Int)) (k1 : wl a < wl b → Pt (pc + 1 + 3) L st h) (k2 : ¬ wl a < wl b → Pt (tgt) L st h) : Pt pc L (lV b :: lV a :: st) h := by
  obtain ⟨p, e, R, s, m, args, below, meth, c, nc, ns, Q, ⟨hx, hb, hml, hown, hts⟩, hK, hR, hret, rfl⟩ := A
  intro ls H locs hl hP hS
  refine W.lcmp hx hb hd0 ?_
  refine lv_if_ge hx hb hdg ht (fun q => k2 (fun w => ?_) ls H locs hl hP hS) (fun q => k1 ?_ ls H locs hl hP hS)
  · have q' := ((lg_cmp_ge _ _).trans (zl_le b a)).mp q
    omega
  · have q' : ¬ (wl b ≤ wl a) := fun w => q (((lg_cmp_ge _ _).trans (zl_le b a)).mpr w)
    omega
theorem s_lcmp_gt (A : Amb g cc own d nL rt Pt En) {a b : Int} {off : Int} {tgt : Nat} (hd0 : decode cc pc = .ok (.lcmp, 1)) (hdg : decode cc (pc + 1) = .ok (.ifCond .gt off, 3)) (ht : ((pc + 1 : Nat) : Int) + off = (tgt : Int)) (k1 : wl a ≤ wl b → Pt (pc + 1 + 3) L st h) (k2 : ¬ wl a ≤ wl b → Pt (tgt) L st h) : Pt pc L (lV b :: lV a :: st) h := by
  obtain ⟨p, e, R, s, m, args, below, meth, c, nc, ns, Q, ⟨hx, hb, hml, hown, hts⟩, hK, hR, hret, rfl⟩ := A
  intro ls H locs hl hP hS
  refine W.lcmp hx hb hd0 ?_
  refine lv_if_gt hx hb hdg ht (fun q => k2 (fun w => ?_) ls H locs hl hP hS) (fun q => k1 ?_ ls H locs hl hP hS)
  · have q' := ((lg_cmp_gt _ _).trans (zl_lt b a)).mp q
    omega
  · have q' : ¬ (wl b < wl a) := fun w => q (((lg_cmp_gt _ _).trans (zl_lt b a)).mpr w)
    omega
theorem s_lcmp_le (A : Amb g cc own d nL rt Pt En) {a b : Int} {off : Int} {tgt : Nat} (hd0 : decode cc pc = .ok (.lcmp, 1)) (hdg : decode cc (pc + 1) = .ok (.ifCond .le off, 3)) (ht : ((pc + 1 : Nat) : Int) + off = (tgt : Int)) (k1 : wl b < wl a → Pt (pc + 1 + 3) L st h) (k2 : ¬ wl b < wl a → Pt (tgt) L st h) : Pt pc L (lV b :: lV a :: st) h := by
  obtain ⟨p, e, R, s, m, args, below, meth, c, nc, ns, Q, ⟨hx, hb, hml, hown, hts⟩, hK, hR, hret, rfl⟩ := A
  intro ls H locs hl hP hS
  refine W.lcmp hx hb hd0 ?_
  refine lv_if_le hx hb hdg ht (fun q => k2 (fun w => ?_) ls H locs hl hP hS) (fun q => k1 ?_ ls H locs hl hP hS)
  · have q' := ((lg_cmp_le _ _).trans (zl_le a b)).mp q
    omega
  · have q' : ¬ (wl a ≤ wl b) := fun w => q (((lg_cmp_le _ _).trans (zl_le a b)).mpr w)
    omega
theorem s_lcmp_lt (A : Amb g cc own d nL rt Pt En) {a b : Int} {off : Int} {tgt : Nat} (hd0 : decode cc pc = .ok (.lcmp, 1)) (hdg : decode cc (pc + 1) = .ok (.ifCond .lt off, 3)) (ht : ((pc + 1 : Nat) : Int) + off = (tgt : Int)) (k1 : wl b ≤ wl a → Pt (pc + 1 + 3) L st h) (k2 : ¬ wl b ≤ wl a → Pt (tgt) L st h) : Pt pc L (lV b :: lV a :: st) h := by
  obtain ⟨p, e, R, s, m, args, below, meth, c, nc, ns, Q, ⟨hx, hb, hml, hown, hts⟩, hK, hR, hret, rfl⟩ := A
  intro ls H locs hl hP hS
  refine W.lcmp hx hb hd0 ?_
  refine lv_if_lt hx hb hdg ht (fun q => k2 (fun w => ?_) ls H locs hl hP hS) (fun q => k1 ?_ ls H locs hl hP hS)
  · have q' := ((lg_cmp_lt _ _).trans (zl_lt a b)).mp q
    omega
  · have q' : ¬ (wl a < wl b) := fun w => q (((lg_cmp_lt _ _).trans (zl_lt a b)).mpr w)
    omega
theorem s_lcmp_ne (A : Amb g cc own d nL rt Pt En) {a b : Int} {off : Int} {tgt : Nat} (hd0 : decode cc pc = .ok (.lcmp, 1)) (hdg : decode cc (pc + 1) = .ok (.ifCond .ne off, 3)) (ht : ((pc + 1 : Nat) : Int) + off = (tgt : Int)) (k1 : wl a = wl b → Pt (pc + 1 + 3) L st h) (k2 : ¬ wl a = wl b → Pt (tgt) L st h) : Pt pc L (lV b :: lV a :: st) h := by
  obtain ⟨p, e, R, s, m, args, below, meth, c, nc, ns, Q, ⟨hx, hb, hml, hown, hts⟩, hK, hR, hret, rfl⟩ := A
  intro ls H locs hl hP hS
  refine W.lcmp hx hb hd0 ?_
  exact lv_if_ne hx hb hdg ht (fun q => k2 (fun w => q (((lg_cmp_eq _ _).trans (zl_eq a b)).mpr w)) ls H locs hl hP hS) (fun q => k1 (((lg_cmp_eq _ _).trans (zl_eq a b)).mp q) ls H locs hl hP hS)
theorem s_lcmp_eq (A : Amb g cc own d nL rt Pt En) {a b : Int} {off : Int} {tgt : Nat} (hd0 : decode cc pc = .ok (.lcmp, 1)) (hdg : decode cc (pc + 1) = .ok (.ifCond .eq off, 3)) (ht : ((pc + 1 : Nat) : Int) + off = (tgt : Int)) (k1 : wl a = wl b → Pt (tgt) L st h) (k2 : ¬ wl a = wl b → Pt (pc + 1 + 3) L st h) : Pt pc L (lV b :: lV a :: st) h := by
  obtain ⟨p, e, R, s, m, args, below, meth, c, nc, ns, Q, ⟨hx, hb, hml, hown, hts⟩, hK, hR, hret, rfl⟩ := A
  intro ls H locs hl hP hS
  refine W.lcmp hx hb hd0 ?_
  exact lv_if_eq hx hb hdg ht (fun q => k1 (((lg_cmp_eq _ _).trans (zl_eq a b)).mp q) ls H locs hl hP hS) (fun q => k2 (fun w => q (((lg_cmp_eq _ _).trans (zl_eq a b)).mpr w)) ls H locs hl hP hS)
end RULES
