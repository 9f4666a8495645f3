/-! The machine under one heap: what the cells are, by number from gb on; h k i is the whole number in slot i of cell k. -/
abbrev Hp : Type := Nat → Int → Int
abbrev GT : Type := Launch × va_G × (Nat → ClassId) × Nat × (Nat → Nat) × (Nat → Nat)
def gl (g : GT) : Launch := g.1
def gD (g : GT) : va_G := g.2.1
def gA (g : GT) : Nat → ClassId := g.2.2.1
def gb (g : GT) : Nat := g.2.2.2.1
def gk (g : GT) : Nat → Nat := g.2.2.2.2.1
def gv (g : GT) : Nat → Nat := g.2.2.2.2.2
def gF (g : GT) : Nat → Prop := fun q => gb g ≤ q
def iV (z : Int) : Value := .int (Int32.ofInt z)
def lV (z : Int) : Value := .long (Int64.ofInt z)
def rV (g : GT) (k : Nat) : Value := .ref (gb g + k)
def sV (g : GT) (k : Nat) : Value := .ref (gk g k)
def wr (z : Int) : Int := (Int32.ofInt z).toInt
def wl (z : Int) : Int := (Int64.ofInt z).toInt
def up (h : Hp) (k : Nat) (i v : Int) : Hp := fun a j => if a = k ∧ j = i then v else h a j
def tysOf (g : GT) : List (ClassId × FieldType) := [(gA g 0, .int), (gA g 1, .long), (gA g 2, .byte), (gA g 3, .boolean), (gA g 4, .object "SpiteField$Land"), (gA g 5, .object "SpiteField$Slot"), (gA g 6, .object "SpiteField$Season")]
def NC : Nat := 186
def shT : List (Nat × Nat) := [(17, 13), (12, 9), (2, 800), (10, 13), (0, 30), (0, 40), (0, 40), (0, 40), (0, 40), (10, 13), (0, 30), (0, 40), (0, 40), (0, 40), (0, 40), (4, 3), (3, 3), (5, 4), (6, 13), (13, 10), (0, 30), (0, 6), (0, 6), (0, 6), (0, 6), (0, 6), (0, 6), (11, 12), (0, 6), (0, 42), (0, 42), (0, 6), (15, 7), (0, 192), (3, 32), (0, 6), (16, 0), (10, 13), (0, 30), (0, 40), (0, 40), (0, 40), (0, 40), (10, 13), (0, 30), (0, 40), (0, 40), (0, 40), (0, 40), (10, 13), (0, 30), (0, 40), (0, 40), (0, 40), (0, 40), (14, 4), (1, 60), (14, 4), (1, 60), (14, 4), (1, 60), (14, 4), (1, 60), (13, 10), (0, 30), (0, 6), (0, 6), (0, 6), (0, 6), (0, 6), (0, 6), (13, 10), (0, 30), (0, 6), (0, 6), (0, 6), (0, 6), (0, 6), (0, 6), (13, 10), (0, 30), (0, 6), (0, 6), (0, 6), (0, 6), (0, 6), (0, 6), (13, 10), (0, 30), (0, 6), (0, 6), (0, 6), (0, 6), (0, 6), (0, 6), (13, 10), (0, 30), (0, 6), (0, 6), (0, 6), (0, 6), (0, 6), (0, 6), (13, 10), (0, 30), (0, 6), (0, 6), (0, 6), (0, 6), (0, 6), (0, 6), (13, 10), (0, 30), (0, 6), (0, 6), (0, 6), (0, 6), (0, 6), (0, 6), (13, 10), (0, 30), (0, 6), (0, 6), (0, 6), (0, 6), (0, 6), (0, 6), (13, 10), (0, 30), (0, 6), (0, 6), (0, 6), (0, 6), (0, 6), (0, 6), (13, 10), (0, 30), (0, 6), (0, 6), (0, 6), (0, 6), (0, 6), (0, 6), (13, 10), (0, 30), (0, 6), (0, 6), (0, 6), (0, 6), (0, 6), (0, 6), (13, 10), (0, 30), (0, 6), (0, 6), (0, 6), (0, 6), (0, 6), (0, 6), (13, 10), (0, 30), (0, 6), (0, 6), (0, 6), (0, 6), (0, 6), (0, 6), (18, 40), (0, 4), (0, 4), (1, 240), (1, 60), (2, 800), (0, 5), (0, 30), (0, 150), (0, 800), (3, 3), (0, 30), (0, 6), (0, 6), (0, 6), (0, 6), (0, 6), (0, 6), (0, 6)]
def sh (k : Nat) : Nat × Nat := shT.getD k (99, 0)
def fdT (c : Nat) : List (Nat × Nat) := match c with
  | 0 => [(0, 0), (0, 0), (0, 0), (0, 0), (0, 0), (0, 0), (0, 0), (2, 1), (0, 0), (2, 2), (2, 3), (2, 4), (2, 5)]
  | 1 => [(0, 0), (0, 0), (0, 0), (0, 0), (2, 1), (2, 2), (2, 3), (2, 4), (0, 0), (0, 0), (0, 0), (0, 0)]
  | 2 => [(0, 0), (0, 0), (0, 0), (2, 1), (0, 0), (0, 0), (0, 0), (0, 0), (0, 0)]
  | 3 => [(0, 0), (0, 0), (0, 0), (2, 1), (2, 2), (2, 3), (2, 4), (2, 5), (2, 6), (2, 7)]
  | 4 => [(0, 0), (0, 0), (0, 0), (2, 1)]
  | 5 => [(0, 0), (2, 1), (2, 2), (2, 3), (0, 0), (0, 0), (0, 0)]
  | 6 => []
  | 7 => [(3, 1), (3, 3), (3, 9), (3, 15), (3, 16), (3, 17), (3, 18), (3, 19), (3, 27), (3, 32), (3, 36), (0, 0), (0, 0)]
  | 8 => [(0, 0), (2, 1), (2, 2), (2, 3), (2, 4), (2, 5), (0, 0), (0, 0), (0, 0), (0, 0), (0, 0), (1, 0), (0, 0), (0, 0), (0, 0), (0, 0), (2, 6), (2, 7), (2, 8), (2, 9), (2, 10), (2, 11), (2, 12), (2, 13), (2, 14), (2, 15), (0, 0), (2, 16), (0, 0), (0, 0), (0, 0), (0, 0), (2, 17), (0, 0), (0, 0), (0, 0), (0, 0), (0, 0), (0, 0), (2, 18)]
  | _ => []
def fdV (g : GT) (k : Nat) (t : Nat × Nat) (x : Int) : Value := match t.1 with
  | 0 => .int (Int32.ofInt x)
  | 1 => .long (Int64.ofInt x)
  | 2 => .ref (gb g + (k + t.2))
  | _ => .ref (gb g + t.2)
def objV (g : GT) (k : Nat) (fs : List (Nat × Nat)) (f : Int → Int) : List Value := fs.mapIdx (fun j t => fdV g k t (f (j : Int)))
def cellE (g : GT) (k : Nat) (f : Int → Int) : va_E := match (sh k).1 with
  | 0 => .inl (gA g 0, (sh k).2, .inl (fun j => Int32.ofInt (f (j : Int))))
  | 1 => .inl (gA g 1, (sh k).2, .inr (.inl (fun j => Int64.ofInt (f (j : Int)))))
  | 2 => .inl (gA g 2, (sh k).2, .inl (fun j => Int32.ofInt (f (j : Int))))
  | 3 => .inl (gA g 3, (sh k).2, .inl (fun j => Int32.ofInt (f (j : Int))))
  | 4 => .inl (gA g 4, (sh k).2, .inr (.inr (.inr (.inr (fun j => some (gb g + (37 + 6 * j)))))))
  | 5 => .inl (gA g 5, (sh k).2, .inr (.inr (.inr (.inr (fun j => some (gb g + (55 + 2 * j)))))))
  | 6 => .inl (gA g 6, (sh k).2, .inr (.inr (.inr (.inr (fun j => some (gb g + (63 + 8 * j)))))))
  | t => .inr (t - 10, objV g k (fdT (t - 10)) f)
def wo (g : GT) (h : Hp) : va_W := (List.range NC).map (fun k => (gb g + k, cellE g k (h k)))
def hset (h : Hp) (k : Nat) (f : Int → Int) : Hp := fun a => if a = k then f else h a
theorem wo_at (g : GT) (h : Hp) {k : Nat} (hk : k < NC) : (wo g h)[k]? = some (gb g + k, cellE g k (h k)) := by
  simp [wo, List.getElem?_range hk]
theorem wo_len (g : GT) (h : Hp) : (wo g h).length = NC := by simp [wo]
theorem wo_lt {g : GT} {h : Hp} {k : Nat} {q : Nat × va_E} (hq : (wo g h)[k]? = some q) : k < NC := by
  have := (List.getElem?_eq_some_iff.mp hq).1
  rwa [wo_len] at this
theorem wo_D (g : GT) (h : Hp) : va_D (gF g) (wo g h) := by
  refine ⟨fun i j p q hi hj hpq => ?_, fun k q hk => ?_⟩
  · have h1 := wo_lt hi
    have h2 := wo_lt hj
    rw [wo_at g h h1] at hi
    rw [wo_at g h h2] at hj
    cases hi; cases hj
    dsimp only at hpq
    omega
  · have h1 := wo_lt hk
    rw [wo_at g h h1] at hk
    cases hk
    show gb g ≤ gb g + k
    omega
theorem wo_set (g : GT) (h : Hp) {k : Nat} (hk : k < NC) (f : Int → Int) : (wo g h).set k (gb g + k, cellE g k f) = wo g (hset h k f) := by
  apply List.ext_getElem?
  intro j
  by_cases hj : j < NC
  · rw [wo_at g _ hj]
    by_cases e : j = k
    · subst e
      rw [List.getElem?_set_self (by rw [wo_len]; exact hj)]
      simp [hset]
    · rw [List.getElem?_set_ne (fun q => e q.symm), wo_at g h hj]
      simp [hset, e]
  · have h1 : (wo g (hset h k f))[j]? = none := by rw [List.getElem?_eq_none_iff, wo_len]; omega
    have h2 : ((wo g h).set k (gb g + k, cellE g k f))[j]? = none := by rw [List.getElem?_eq_none_iff, List.length_set, wo_len]; omega
    rw [h1, h2]
theorem sh_lt {k t n : Nat} (h : sh k = (t, n)) (ht : t ≠ 99) : k < NC := by
  rcases Nat.lt_or_ge k NC with q | q
  · exact q
  · exfalso
    apply ht
    have : sh k = (99, 0) := by
      unfold sh
      rw [List.getD_eq_getElem?_getD, List.getElem?_eq_none_iff.mpr (by exact q)]
      rfl
    rw [this] at h
    exact (Prod.mk.inj h).1.symm
theorem hset_up (h : Hp) (k : Nat) (i v : Int) : hset h k (fun j => if j = i then v else h k j) = up h k i v := by
  funext a j
  simp only [hset, up]
  by_cases e : a = k
  · subst e; simp
  · simp [e]
/-! the numbers -/
theorem wr_def (z : Int) : wr z = z.bmod (2 ^ 32) := by
  show (Int32.ofInt z).toInt = _
  rw [Int32.toInt_ofInt]
theorem wr_id {z : Int} (h : -2147483648 ≤ z ∧ z < 2147483648) : wr z = z := by
  rw [wr_def]
  exact Int.bmod_eq_of_le (by omega) (by omega)
theorem wl_def (z : Int) : wl z = z.bmod (2 ^ 64) := by
  show (Int64.ofInt z).toInt = _
  rw [Int64.toInt_ofInt]
theorem wl_id {z : Int} (h : -9223372036854775808 ≤ z ∧ z < 9223372036854775808) : wl z = z := by
  rw [wl_def]
  exact Int.bmod_eq_of_le (by omega) (by omega)
theorem wr_in (z : Int) : -2147483648 ≤ wr z ∧ wr z < 2147483648 := by
  rw [wr_def]
  exact ⟨Int.le_bmod (by omega), Int.bmod_lt (by omega)⟩
theorem wl_in (z : Int) : -9223372036854775808 ≤ wl z ∧ wl z < 9223372036854775808 := by
  rw [wl_def]
  exact ⟨Int.le_bmod (by omega), Int.bmod_lt (by omega)⟩
theorem wr_wr (z : Int) : wr (wr z) = wr z := wr_id (wr_in z)
theorem iV_wr (z : Int) : iV (wr z) = iV z := by
  show Value.int _ = Value.int _
  rw [show wr z = (Int32.ofInt z).toInt from rfl, Int32.ofInt_toInt]
theorem iV_toInt (x : Int32) : iV x.toInt = .int x := by
  show Value.int _ = Value.int _
  rw [Int32.ofInt_toInt]
theorem vp_in_wr {z : Int} {n : Nat} (h : 0 ≤ wr z ∧ wr z < n) : vp_in (Int32.ofInt z) n := vp_in_iff.mpr h
theorem clamp_wr {z : Int} (h : 0 ≤ wr z) : (((Int32.ofInt z).toNatClampNeg : Nat) : Int) = wr z := by
  show (((Int32.ofInt z).toInt.toNat : Nat) : Int) = (Int32.ofInt z).toInt
  have h' : 0 ≤ (Int32.ofInt z).toInt := h
  omega
