section RULES2
variable {g : GT} {cc : ByteArray} {own : String} {d nL : Nat} {rt : Option FieldType} {Pt : Nat → List (Nat × Value) → List Value → Hp → Prop} {En : Option Value → Hp → Prop} {pc : Nat} {L : List (Nat × Value)} {st : List Value} {h : Hp}
/-! cells -/
theorem cE_i {k n : Nat} (hk : sh k = (0, n)) (f : Int → Int) : cellE g k f = .inl (gA g 0, n, .inl (fun j => Int32.ofInt (f (j : Int)))) := by simp [cellE, hk]
theorem cE_l {k n : Nat} (hk : sh k = (1, n)) (f : Int → Int) : cellE g k f = .inl (gA g 1, n, .inr (.inl (fun j => Int64.ofInt (f (j : Int))))) := by simp [cellE, hk]
theorem cE_b {k n : Nat} (hk : sh k = (2, n)) (f : Int → Int) : cellE g k f = .inl (gA g 2, n, .inl (fun j => Int32.ofInt (f (j : Int)))) := by simp [cellE, hk]
theorem cE_z {k n : Nat} (hk : sh k = (3, n)) (f : Int → Int) : cellE g k f = .inl (gA g 3, n, .inl (fun j => Int32.ofInt (f (j : Int)))) := by simp [cellE, hk]
theorem cE_4 {k n : Nat} (hk : sh k = (4, n)) (f : Int → Int) : cellE g k f = .inl (gA g 4, n, .inr (.inr (.inr (.inr (fun j => some (gb g + (37 + 6 * j))))))) := by simp [cellE, hk]
theorem cE_5 {k n : Nat} (hk : sh k = (5, n)) (f : Int → Int) : cellE g k f = .inl (gA g 5, n, .inr (.inr (.inr (.inr (fun j => some (gb g + (55 + 2 * j))))))) := by simp [cellE, hk]
theorem cE_6 {k n : Nat} (hk : sh k = (6, n)) (f : Int → Int) : cellE g k f = .inl (gA g 6, n, .inr (.inr (.inr (.inr (fun j => some (gb g + (63 + 8 * j))))))) := by simp [cellE, hk]
theorem cE_o {k n c : Nat} (hk : sh k = (c + 10, n)) (f : Int → Int) : cellE g k f = .inr (c, objV g k (fdT c) f) := by simp [cellE, hk]
theorem clamp_iff {i : Int} (h0 : 0 ≤ wr i) (q : Nat) : q = (Int32.ofInt i).toNatClampNeg ↔ (q : Int) = wr i := by
  have := clamp_wr h0
  omega
/-! fields -/
/-- the field at place j of class number c, linked at place idx of class own -/
def FL (own : String) (idx c j : Nat) : Prop := ∃ (C : String) (T : u_T) (N : Nat), vwCl[c]? = some (C, T, N) ∧ j < N ∧ (∀ w ∈ u_ws C T N, w ∈ GW) ∧ Cond.fieldLink own idx (T j).1 (T j).2.1 (T j).2.2.1 ∈ GW
def FP (c j : Nat) (ty : FieldType) : Prop := ∃ (C : String) (T : u_T) (N : Nat) (ty0 : Nat → FieldType), vwCl[c]? = some (C, T, N) ∧ (∀ k, k < N → parseFieldDescriptor (T k).2.2.1 = some (ty0 k)) ∧ (∀ a, a < N → ∀ b, b < N → a ≠ b → (T a).2.1 ≠ (T b).2.1) ∧ (T j).2.2.2 = false ∧ parseFieldDescriptor (T j).2.2.1 = some ty
theorem objV_at (g : GT) (k : Nat) {fs : List (Nat × Nat)} (f : Int → Int) {j : Nat} {t : Nat × Nat} (ht : fs[j]? = some t) : (objV g k fs f)[j]? = some (fdV g k t (f (j : Int))) := by
  simp [objV, List.getElem?_mapIdx, ht]
theorem objV_set (g : GT) (k : Nat) {fs : List (Nat × Nat)} (f : Int → Int) {j : Nat} {t : Nat × Nat} (ht : fs[j]? = some t) (x : Int) : (objV g k fs f).set j (fdV g k t x) = objV g k fs (fun i => if i = (j : Int) then x else f i) := by
  apply List.ext_getElem?
  intro i
  by_cases e : i = j
  · subst e
    have hl : i < (objV g k fs f).length := (List.getElem?_eq_some_iff.mp (objV_at g k f ht)).1
    rw [List.getElem?_set_self hl, objV_at g k _ ht]
    simp
  · rw [List.getElem?_set_ne (fun q => e q.symm)]
    simp only [objV, List.getElem?_mapIdx]
    have : ¬ ((i : Int) = (j : Int)) := by omega
    simp [this]
theorem s_getf (A : Amb g cc own d nL rt Pt En) {k n c j idx : Nat} {t : Nat × Nat} (hk : sh k = (c + 10, n)) (hf : FL own idx c j) (ht : (fdT c)[j]? = some t) (hn : c < 50) (hdg : decode cc pc = .ok (.getfield idx, 3)) (kk : Pt (pc + 3) L (fdV g k t (h k (j : Int)) :: st) h) : Pt pc L (rV g k :: st) h := by
  obtain ⟨p, e, R, s, m, args, below, meth, cd, nc, ns, Q, ⟨hx, hb, hml, hown, hts⟩, hK, hR, hret, rfl⟩ := A
  intro ls H locs hl hP hS
  obtain ⟨C, T, N, h1, h2, h3, h4⟩ := hf
  have hlt : k < NC := sh_lt hk (by omega)
  have he := wo_at g h hlt
  rw [cE_o hk] at he
  exact va_get hx hb hts h3 hown hK.1 hP k he h1 j h2 (hts _ h4) (fun _ q => q) (objV_at g k (h k) ht) hdg (kk ls H locs hl hP hS)
theorem s_geti (A : Amb g cc own d nL rt Pt En) {k n c j idx : Nat} (hk : sh k = (c + 10, n)) (hf : FL own idx c j) (ht : (fdT c)[j]? = some (0, 0)) (hn : c < 50) (hdg : decode cc pc = .ok (.getfield idx, 3)) (kk : Pt (pc + 3) L (iV (h k (j : Int)) :: st) h) : Pt pc L (rV g k :: st) h := s_getf A hk hf ht hn hdg kk
theorem s_getl (A : Amb g cc own d nL rt Pt En) {k n c j idx : Nat} (hk : sh k = (c + 10, n)) (hf : FL own idx c j) (ht : (fdT c)[j]? = some (1, 0)) (hn : c < 50) (hdg : decode cc pc = .ok (.getfield idx, 3)) (kk : Pt (pc + 3) L (lV (h k (j : Int)) :: st) h) : Pt pc L (rV g k :: st) h := s_getf A hk hf ht hn hdg kk
theorem s_getr (A : Amb g cc own d nL rt Pt En) {k n c j idx o : Nat} (hk : sh k = (c + 10, n)) (hf : FL own idx c j) (ht : (fdT c)[j]? = some (2, o)) (hn : c < 50) (hdg : decode cc pc = .ok (.getfield idx, 3)) (kk : Pt (pc + 3) L (rV g (k + o) :: st) h) : Pt pc L (rV g k :: st) h := s_getf A hk hf ht hn hdg kk
theorem s_geta (A : Amb g cc own d nL rt Pt En) {k n c j idx o : Nat} (hk : sh k = (c + 10, n)) (hf : FL own idx c j) (ht : (fdT c)[j]? = some (3, o)) (hn : c < 50) (hdg : decode cc pc = .ok (.getfield idx, 3)) (kk : Pt (pc + 3) L (rV g o :: st) h) : Pt pc L (rV g k :: st) h := s_getf A hk hf ht hn hdg kk
set_option maxHeartbeats 1000000 in
theorem s_putf (A : Amb g cc own d nL rt Pt En) {k n c j idx : Nat} {t : Nat × Nat} {ty : FieldType} {x : Int} (hk : sh k = (c + 10, n)) (hf : FL own idx c j) (hp : FP c j ty) (ht : (fdT c)[j]? = some t) (hn : c < 50) (hnr : narrow ty (fdV g k t x) = fdV g k t x) (hft : fits ty (fdV g k t x) = true) (hdg : decode cc pc = .ok (.putfield idx, 3)) (kk : Pt (pc + 3) L st (up h k (j : Int) x)) : Pt pc L (fdV g k t x :: rV g k :: st) h := by
  obtain ⟨p, e, R, s, m, args, below, meth, cd, nc, ns, Q, ⟨hx, hb, hml, hown, hts⟩, hK, hR, hret, rfl⟩ := A
  intro ls H locs hl hP hS
  obtain ⟨C, T, N, h1, h2, h3, h4⟩ := hf
  obtain ⟨C', T', N', ty0, e1, e2, e3, e4, e5⟩ := hp
  rw [h1] at e1
  cases e1
  have hlt : k < NC := sh_lt hk (by omega)
  have he := wo_at g h hlt
  rw [cE_o hk] at he
  refine va_put hx hb hts h3 ty0 e2 e3 hown hK.1 hP (wo_D g h) hS k he h1 j h2 (hts _ h4) (fun _ q => q) e4 e5 hnr hft (List.getElem?_eq_some_iff.mp (objV_at g k (h k) ht)).1 hdg ?_
  intro H1 locs1 hP1 _ hS1
  refine kk ls H1 locs1 hl ?_ hS1
  rw [objV_set g k (h k) ht x, ← cE_o (g := g) hk (fun i => if i = (j : Int) then x else h k i), wo_set g h hlt, hset_up] at hP1
  exact hP1
theorem s_puti (A : Amb g cc own d nL rt Pt En) {k n c j idx : Nat} {x : Int} (hk : sh k = (c + 10, n)) (hf : FL own idx c j) (hp : FP c j .int) (ht : (fdT c)[j]? = some (0, 0)) (hn : c < 50) (hdg : decode cc pc = .ok (.putfield idx, 3)) (kk : Pt (pc + 3) L st (up h k (j : Int) x)) : Pt pc L (iV x :: rV g k :: st) h := s_putf A (t := (0, 0)) hk hf hp ht hn rfl rfl hdg kk
theorem s_putl (A : Amb g cc own d nL rt Pt En) {k n c j idx : Nat} {x : Int} (hk : sh k = (c + 10, n)) (hf : FL own idx c j) (hp : FP c j .long) (ht : (fdT c)[j]? = some (1, 0)) (hn : c < 50) (hdg : decode cc pc = .ok (.putfield idx, 3)) (kk : Pt (pc + 3) L st (up h k (j : Int) x)) : Pt pc L (lV x :: rV g k :: st) h := s_putf A (t := (1, 0)) hk hf hp ht hn rfl rfl hdg kk
theorem nz_ok {x : Int} (h : x = 0 ∨ x = 1) : narrow .boolean (iV x) = iV x ∧ fits .boolean (iV x) = true := by
  rcases h with rfl | rfl <;> exact ⟨rfl, rfl⟩
theorem s_putz (A : Amb g cc own d nL rt Pt En) {k n c j idx : Nat} {x : Int} (hk : sh k = (c + 10, n)) (hf : FL own idx c j) (hp : FP c j .boolean) (ht : (fdT c)[j]? = some (0, 0)) (hn : c < 50) (h01 : x = 0 ∨ x = 1) (hdg : decode cc pc = .ok (.putfield idx, 3)) (kk : Pt (pc + 3) L st (up h k (j : Int) x)) : Pt pc L (iV x :: rV g k :: st) h := s_putf A (t := (0, 0)) hk hf hp ht hn (nz_ok h01).1 (nz_ok h01).2 hdg kk
/-! arrays -/
theorem tys_at (g : GT) : (tysOf g)[0]? = some (gA g 0, .int) ∧ (tysOf g)[1]? = some (gA g 1, .long) ∧ (tysOf g)[2]? = some (gA g 2, .byte) ∧ (tysOf g)[3]? = some (gA g 3, .boolean) := ⟨rfl, rfl, rfl, rfl⟩
theorem s_iald (A : Amb g cc own d nL rt Pt En) {k n : Nat} {i : Int} (hk : sh k = (0, n)) (hi : 0 ≤ wr i ∧ wr i < n) (hdg : decode cc pc = .ok (.iaload, 1)) (kk : Pt (pc + 1) L (iV (h k (wr i)) :: st) h) : Pt pc L (iV i :: rV g k :: st) h := by
  obtain ⟨p, e, R, s, m, args, below, meth, cd, nc, ns, Q, ⟨hx, hb, hml, hown, hts⟩, hK, hR, hret, rfl⟩ := A
  intro ls H locs hl hP hS
  have he := wo_at g h (sh_lt hk (by omega))
  rw [cE_i hk] at he
  refine va_iald hx hb hK.1 hP k 0 he rfl (vp_in_wr hi) hdg ?_
  rw [clamp_wr hi.1]
  exact kk ls H locs hl hP hS
theorem s_bald (A : Amb g cc own d nL rt Pt En) {k n : Nat} {i : Int} (hk : sh k = (2, n)) (hi : 0 ≤ wr i ∧ wr i < n) (hdg : decode cc pc = .ok (.baload, 1)) (kk : Pt (pc + 1) L (iV (h k (wr i)) :: st) h) : Pt pc L (iV i :: rV g k :: st) h := by
  obtain ⟨p, e, R, s, m, args, below, meth, cd, nc, ns, Q, ⟨hx, hb, hml, hown, hts⟩, hK, hR, hret, rfl⟩ := A
  intro ls H locs hl hP hS
  have he := wo_at g h (sh_lt hk (by omega))
  rw [cE_b hk] at he
  refine va_bald hx hb hK.1 hP k 2 he rfl (vp_in_wr hi) hdg ?_
  rw [clamp_wr hi.1]
  exact kk ls H locs hl hP hS
theorem s_zald (A : Amb g cc own d nL rt Pt En) {k n : Nat} {i : Int} (hk : sh k = (3, n)) (hi : 0 ≤ wr i ∧ wr i < n) (hdg : decode cc pc = .ok (.baload, 1)) (kk : Pt (pc + 1) L (iV (h k (wr i)) :: st) h) : Pt pc L (iV i :: rV g k :: st) h := by
  obtain ⟨p, e, R, s, m, args, below, meth, cd, nc, ns, Q, ⟨hx, hb, hml, hown, hts⟩, hK, hR, hret, rfl⟩ := A
  intro ls H locs hl hP hS
  have he := wo_at g h (sh_lt hk (by omega))
  rw [cE_z hk] at he
  refine va_zald hx hb hK.1 hP k 3 he rfl (vp_in_wr hi) hdg ?_
  rw [clamp_wr hi.1]
  exact kk ls H locs hl hP hS
theorem s_lald (A : Amb g cc own d nL rt Pt En) {k n : Nat} {i : Int} (hk : sh k = (1, n)) (hi : 0 ≤ wr i ∧ wr i < n) (hdg : decode cc pc = .ok (.laload, 1)) (kk : Pt (pc + 1) L (lV (h k (wr i)) :: st) h) : Pt pc L (iV i :: rV g k :: st) h := by
  obtain ⟨p, e, R, s, m, args, below, meth, cd, nc, ns, Q, ⟨hx, hb, hml, hown, hts⟩, hK, hR, hret, rfl⟩ := A
  intro ls H locs hl hP hS
  have he := wo_at g h (sh_lt hk (by omega))
  rw [cE_l hk] at he
  refine va_lald hx hb hK.1 hP k 1 he rfl (vp_in_wr hi) hdg ?_
  rw [clamp_wr hi.1]
  exact kk ls H locs hl hP hS
theorem upd_eq {f : Int → Int} {i x : Int} (h0 : 0 ≤ wr i) : upd (fun j => Int32.ofInt (f (j : Int))) (Int32.ofInt i).toNatClampNeg (Int32.ofInt x) = fun j : Nat => Int32.ofInt ((fun q => if q = wr i then x else f q) (j : Int)) := by
  funext q
  simp only [upd]
  by_cases e : q = (Int32.ofInt i).toNatClampNeg
  · rw [if_pos e, if_pos ((clamp_iff h0 q).mp e)]
  · rw [if_neg e, if_neg (fun w => e ((clamp_iff h0 q).mpr w))]
theorem updL_eq {f : Int → Int} {i x : Int} (h0 : 0 ≤ wr i) : vp_updL (fun j => Int64.ofInt (f (j : Int))) (Int32.ofInt i).toNatClampNeg (Int64.ofInt x) = fun j : Nat => Int64.ofInt ((fun q => if q = wr i then x else f q) (j : Int)) := by
  funext q
  simp only [vp_updL]
  by_cases e : q = (Int32.ofInt i).toNatClampNeg
  · rw [if_pos e, if_pos ((clamp_iff h0 q).mp e)]
  · rw [if_neg e, if_neg (fun w => e ((clamp_iff h0 q).mpr w))]
theorem s_iast (A : Amb g cc own d nL rt Pt En) {k n : Nat} {i x : Int} (hk : sh k = (0, n)) (hi : 0 ≤ wr i ∧ wr i < n) (hdg : decode cc pc = .ok (.iastore, 1)) (kk : Pt (pc + 1) L st (up h k (wr i) x)) : Pt pc L (iV x :: iV i :: rV g k :: st) h := by
  obtain ⟨p, e, R, s, m, args, below, meth, cd, nc, ns, Q, ⟨hx, hb, hml, hown, hts⟩, hK, hR, hret, rfl⟩ := A
  intro ls H locs hl hP hS
  have hlt := sh_lt hk (by omega)
  have he := wo_at g h hlt
  rw [cE_i hk] at he
  refine va_iast hx hb hK.1 hP (wo_D g h) hS k 0 he rfl (vp_in_wr hi) hdg ?_
  intro H1 locs1 hP1 _ hS1
  refine kk ls H1 locs1 hl ?_ hS1
  rw [upd_eq hi.1, ← cE_i (g := g) hk (fun q => if q = wr i then x else h k q), wo_set g h hlt, hset_up] at hP1
  exact hP1
theorem s_last (A : Amb g cc own d nL rt Pt En) {k n : Nat} {i x : Int} (hk : sh k = (1, n)) (hi : 0 ≤ wr i ∧ wr i < n) (hdg : decode cc pc = .ok (.lastore, 1)) (kk : Pt (pc + 1) L st (up h k (wr i) x)) : Pt pc L (lV x :: iV i :: rV g k :: st) h := by
  obtain ⟨p, e, R, s, m, args, below, meth, cd, nc, ns, Q, ⟨hx, hb, hml, hown, hts⟩, hK, hR, hret, rfl⟩ := A
  intro ls H locs hl hP hS
  have hlt := sh_lt hk (by omega)
  have he := wo_at g h hlt
  rw [cE_l hk] at he
  refine va_last hx hb hK.1 hP (wo_D g h) hS k 1 he rfl (vp_in_wr hi) hdg ?_
  intro H1 locs1 hP1 _ hS1
  refine kk ls H1 locs1 hl ?_ hS1
  rw [updL_eq hi.1, ← cE_l (g := g) hk (fun q => if q = wr i then x else h k q), wo_set g h hlt, hset_up] at hP1
  exact hP1
theorem nar8 (x : Int) : vp_nar .byte (Int32.ofInt x) = Int32.ofInt (w8 x) := by
  rw [vp_nar_byte]
  exact (oi_t _).symm
theorem s_bast (A : Amb g cc own d nL rt Pt En) {k n : Nat} {i x : Int} (hk : sh k = (2, n)) (hi : 0 ≤ wr i ∧ wr i < n) (hdg : decode cc pc = .ok (.bastore, 1)) (kk : Pt (pc + 1) L st (up h k (wr i) (w8 x))) : Pt pc L (iV x :: iV i :: rV g k :: st) h := by
  obtain ⟨p, e, R, s, m, args, below, meth, cd, nc, ns, Q, ⟨hx, hb, hml, hown, hts⟩, hK, hR, hret, rfl⟩ := A
  intro ls H locs hl hP hS
  have hlt := sh_lt hk (by omega)
  have he := wo_at g h hlt
  rw [cE_b hk] at he
  refine va_bast hx hb hK.1 hP (wo_D g h) hS k 2 he rfl (vp_in_wr hi) hdg ?_
  intro H1 locs1 hP1 _ hS1
  refine kk ls H1 locs1 hl ?_ hS1
  rw [nar8, upd_eq hi.1, ← cE_b (g := g) hk (fun q => if q = wr i then w8 x else h k q), wo_set g h hlt, hset_up] at hP1
  exact hP1
theorem narz {x : Int} (h : x = 0 ∨ x = 1) : vp_nar .boolean (Int32.ofInt x) = Int32.ofInt x := by
  rcases h with rfl | rfl <;> rfl
theorem s_zast (A : Amb g cc own d nL rt Pt En) {k n : Nat} {i x : Int} (hk : sh k = (3, n)) (hi : 0 ≤ wr i ∧ wr i < n) (h01 : x = 0 ∨ x = 1) (hdg : decode cc pc = .ok (.bastore, 1)) (kk : Pt (pc + 1) L st (up h k (wr i) x)) : Pt pc L (iV x :: iV i :: rV g k :: st) h := by
  obtain ⟨p, e, R, s, m, args, below, meth, cd, nc, ns, Q, ⟨hx, hb, hml, hown, hts⟩, hK, hR, hret, rfl⟩ := A
  intro ls H locs hl hP hS
  have hlt := sh_lt hk (by omega)
  have he := wo_at g h hlt
  rw [cE_z hk] at he
  refine va_zast hx hb hK.1 hP (wo_D g h) hS k 3 he rfl (vp_in_wr hi) hdg ?_
  intro H1 locs1 hP1 _ hS1
  refine kk ls H1 locs1 hl ?_ hS1
  rw [narz h01, upd_eq hi.1, ← cE_z (g := g) hk (fun q => if q = wr i then x else h k q), wo_set g h hlt, hset_up] at hP1
  exact hP1
theorem clamp_nat {i : Int} (h0 : 0 ≤ wr i) : (Int32.ofInt i).toNatClampNeg = (wr i).toNat := by
  have := clamp_wr h0
  omega
theorem s_aald4 (A : Amb g cc own d nL rt Pt En) {k n : Nat} {i : Int} (hk : sh k = (4, n)) (hi : 0 ≤ wr i ∧ wr i < n) (hdg : decode cc pc = .ok (.aaload, 1)) (kk : Pt (pc + 1) L (rV g (37 + 6 * (wr i).toNat) :: st) h) : Pt pc L (iV i :: rV g k :: st) h := by
  obtain ⟨p, e, R, s, m, args, below, meth, cd, nc, ns, Q, ⟨hx, hb, hml, hown, hts⟩, hK, hR, hret, rfl⟩ := A
  intro ls H locs hl hP hS
  have he := wo_at g h (sh_lt hk (by omega))
  rw [cE_4 hk] at he
  refine va_aldq hx hb hK.1 hP k 4 he rfl (vp_in_wr hi) hdg ?_
  rw [clamp_nat hi.1]
  exact kk ls H locs hl hP hS
theorem s_aald5 (A : Amb g cc own d nL rt Pt En) {k n : Nat} {i : Int} (hk : sh k = (5, n)) (hi : 0 ≤ wr i ∧ wr i < n) (hdg : decode cc pc = .ok (.aaload, 1)) (kk : Pt (pc + 1) L (rV g (55 + 2 * (wr i).toNat) :: st) h) : Pt pc L (iV i :: rV g k :: st) h := by
  obtain ⟨p, e, R, s, m, args, below, meth, cd, nc, ns, Q, ⟨hx, hb, hml, hown, hts⟩, hK, hR, hret, rfl⟩ := A
  intro ls H locs hl hP hS
  have he := wo_at g h (sh_lt hk (by omega))
  rw [cE_5 hk] at he
  refine va_aldq hx hb hK.1 hP k 5 he rfl (vp_in_wr hi) hdg ?_
  rw [clamp_nat hi.1]
  exact kk ls H locs hl hP hS
theorem s_aald6 (A : Amb g cc own d nL rt Pt En) {k n : Nat} {i : Int} (hk : sh k = (6, n)) (hi : 0 ≤ wr i ∧ wr i < n) (hdg : decode cc pc = .ok (.aaload, 1)) (kk : Pt (pc + 1) L (rV g (63 + 8 * (wr i).toNat) :: st) h) : Pt pc L (iV i :: rV g k :: st) h := by
  obtain ⟨p, e, R, s, m, args, below, meth, cd, nc, ns, Q, ⟨hx, hb, hml, hown, hts⟩, hK, hR, hret, rfl⟩ := A
  intro ls H locs hl hP hS
  have he := wo_at g h (sh_lt hk (by omega))
  rw [cE_6 hk] at he
  refine va_aldq hx hb hK.1 hP k 6 he rfl (vp_in_wr hi) hdg ?_
  rw [clamp_nat hi.1]
  exact kk ls H locs hl hP hS
theorem s_alen0 (A : Amb g cc own d nL rt Pt En) {k n : Nat} (hk : sh k = (0, n)) (hdg : decode cc pc = .ok (.arraylength, 1)) (kk : Pt (pc + 1) L (iV (n : Int) :: st) h) : Pt pc L (rV g k :: st) h := by
  obtain ⟨p, e, R, s, m, args, below, meth, cd, nc, ns, Q, ⟨hx, hb, hml, hown, hts⟩, hK, hR, hret, rfl⟩ := A
  intro ls H locs hl hP hS
  have he := wo_at g h (sh_lt hk (by omega))
  rw [cE_i hk] at he
  exact va_alen hx hb hK.1 hP k 0 he rfl (v := Int32.ofInt (n : Int)) rfl hdg (kk ls H locs hl hP hS)
theorem s_alen1 (A : Amb g cc own d nL rt Pt En) {k n : Nat} (hk : sh k = (1, n)) (hdg : decode cc pc = .ok (.arraylength, 1)) (kk : Pt (pc + 1) L (iV (n : Int) :: st) h) : Pt pc L (rV g k :: st) h := by
  obtain ⟨p, e, R, s, m, args, below, meth, cd, nc, ns, Q, ⟨hx, hb, hml, hown, hts⟩, hK, hR, hret, rfl⟩ := A
  intro ls H locs hl hP hS
  have he := wo_at g h (sh_lt hk (by omega))
  rw [cE_l hk] at he
  exact va_alen hx hb hK.1 hP k 1 he rfl (v := Int32.ofInt (n : Int)) rfl hdg (kk ls H locs hl hP hS)
theorem s_alen2 (A : Amb g cc own d nL rt Pt En) {k n : Nat} (hk : sh k = (2, n)) (hdg : decode cc pc = .ok (.arraylength, 1)) (kk : Pt (pc + 1) L (iV (n : Int) :: st) h) : Pt pc L (rV g k :: st) h := by
  obtain ⟨p, e, R, s, m, args, below, meth, cd, nc, ns, Q, ⟨hx, hb, hml, hown, hts⟩, hK, hR, hret, rfl⟩ := A
  intro ls H locs hl hP hS
  have he := wo_at g h (sh_lt hk (by omega))
  rw [cE_b hk] at he
  exact va_alen hx hb hK.1 hP k 2 he rfl (v := Int32.ofInt (n : Int)) rfl hdg (kk ls H locs hl hP hS)
end RULES2
