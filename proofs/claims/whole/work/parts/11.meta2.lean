/-! words: one list for all methods -/
def GW : List Cond := lw_tbl.filter goodWord
theorem GW_in {w : Cond} (h : w ∈ lw_tbl) (hg : goodWord w = true) : w ∈ GW := List.mem_filter.mpr ⟨h, hg⟩
theorem GW_good : ∀ w ∈ GW, (w.onTables && w.keeps) = true ∨ ∃ ty, w = .arrayClass ty := fun _ h => good_of_word (List.mem_filter.mp h).2
theorem GW_at (i : Nat) {w : Cond} (h : lw_tbl[i]? = some w) (hg : goodWord w = true) : w ∈ GW := GW_in (List.mem_of_getElem? h) hg
def Wd (y : MethodName) (cc : ByteArray) (nL : Nat) (rt : Option FieldType) : List Cond := .code y cc nL rt :: GW
def rmd (d : Nat) : Room := { frames := d, cells := 0, slots := 0, locals := 64 * d }
def NW : List (String × Nat × MethodName) := [(RX3, 74, yX7_deciderAt), (RX3, 88, yX7_favourite), (RX1, 91, yX7_deciderAt), (RX1, 100, yX7_holds), (RX5, 42, yX7_favourite), (RX6, 41, yX7_holds)]
def sLen : List Nat := [5, 5, 3, 5, 4, 6, 5, 5]
def sByt : List (List Int32) := [[102, 105, 101, 108, 100], [107, 105, 110, 100, 115], [108, 97, 119], [102, 97, 100, 101, 115], [111, 100, 100, 115], [112, 101, 114, 115, 111, 110], [108, 111, 118, 101, 115], [104, 97, 116, 101, 115]]
def SR : List (Nat × String × Nat) := [(66, "field", 0), (72, "kinds", 1), (80, "law", 2), (84, "fades", 3), (88, "odds", 4), (94, "person", 5), (106, "loves", 6), (108, "hates", 7)]
def KK (g : GT) (U : State) (H : Heap) : Prop := va_K (gD g) vwCl (tysOf g) U ∧ (∀ q ∈ NW, va_Nw (.methodLinkNest q.1 q.2.1 q.2.2 "SpiteField") U) ∧ vk_S 8 sLen sByt (gk g) (gv g) (gF g) U H ∧ (∀ q ∈ SR, vk_R RX2 q.1 q.2.1 (gk g q.2.2) U) ∧ va_Z "java/lang/String" "COMPACT_STRINGS" "Z" (.int 1) (gF g) U H ∧ va_Zq "jdk/internal/util/Preconditions" "SIOOBE_FORMATTER" "Ljava/util/function/BiFunction;" (gF g) U H
theorem KK.warm {g : GT} {s U : State} {H H1 : Heap} (h : KK g s H) (hW : s.WarmedH U.vm) (hq : ∀ a : Nat, a < H.size → ¬ gF g a → H1[a]? = H[a]?) : KK g U H1 :=
  ⟨va_K.moved hW.alike h.1, fun q hq => va_Nw.warmM hW (h.2.1 q hq), vk_S.kept (vk_S.moved hW.alike h.2.2.1) hq, fun q hq => vk_R.warm hW (h.2.2.2.1 q hq), va_Z.kept (va_Z.moved hW.alike h.2.2.2.2.1) hq, va_Zq.kept (va_Zq.moved hW.alike h.2.2.2.2.2) hq⟩
theorem KK.same {g : GT} {u U : State} {H : Heap} (h : KK g u H) (hv : u.vm = U.vm) : KK g U H :=
  ⟨va_K.moved (by rw [hv]; exact Vm.Alike.refl _) h.1, fun q hq => va_Nw.same rfl hv (h.2.1 q hq), vk_S.moved (by rw [hv]; exact Vm.Alike.refl _) h.2.2.1, fun q hq => vk_R.same hv.symm (h.2.2.2.1 q hq), va_Z.moved (by rw [hv]; exact Vm.Alike.refl _) h.2.2.2.2.1, va_Zq.moved (by rw [hv]; exact Vm.Alike.refl _) h.2.2.2.2.2⟩
def Rp (g : GT) (h : Hp) (H : Heap) : Prop := va_P (gD g) vwCl (wo g h) H
/-- the end of a method: the row of bytes, the answer -/
def RetOk (cc : ByteArray) (pc : Nat) (rt : Option FieldType) (v : Option Value) : Prop :=
  (∃ (x : Int32) (ty : FieldType), v = some (.int x) ∧ rt = some ty ∧ narrow ty (.int x) = .int x ∧ decode cc pc = .ok (.ireturn, 1)) ∨
  (∃ x : Int64, v = some (.long x) ∧ rt = some .long ∧ decode cc pc = .ok (.lreturn, 1)) ∨
  (∃ (a : Nat) (n : String), v = some (.ref a) ∧ rt = some (.object n) ∧ decode cc pc = .ok (.areturn, 1)) ∨
  (v = none ∧ rt = none ∧ decode cc pc = .ok (.return_, 1))
/-- a body under way: Pt pc locals stack heap is 'from there it comes to its end'; En is what may be answered -/
def Amb (g : GT) (cc : ByteArray) (own : String) (d nL : Nat) (rt : Option FieldType) (Pt : Nat → List (Nat × Value) → List Value → Hp → Prop) (En : Option Value → Hp → Prop) : Prop :=
  ∃ (p : Program) (e : Env) (R : Room) (s : State) (m : MethodId) (args : Array Value) (below : List Frame) (meth : Method) (c : Code) (nc ns : Nat) (Q : State → Prop),
    CallFix p m c cc nL s args GW own ∧ KK g s s.heap ∧ (d ≤ R.frames ∧ 64 * d ≤ R.locals ∧ nc ≤ R.cells ∧ ns ≤ R.slots) ∧
    (∀ (pc : Nat) (ls : Array Slot) (H : Heap) (locs : List Loc) (h : Hp) (v : Option Value), En v h → RetOk cc pc rt v → Rp g h H → va_S (gF g) s.heap H locs → W p (gl g) e R s m args below meth c H locs nc ns Q (F0 m pc ls v.toList)) ∧
    Pt = fun pc L st h => ∀ (ls : Array Slot) (H : Heap) (locs : List Loc), lv_has ls nL L → Rp g h H → va_S (gF g) s.heap H locs → W p (gl g) e R s m args below meth c H locs nc ns Q (F0 m pc ls st)
/-- a method's contract: from heap h with these arguments it answers r with heap h' -/
def Lm (g : GT) (d : Nat) (y : MethodName) (cc : ByteArray) (nL : Nat) (rt : Option FieldType) (av : List Value) (h : Hp) (r : Option Value) (h' : Hp) : Prop :=
  Met (gl g) y (Wd y cc nL rt) (rmd d) (va_Pc av (fun U => Rp g h U.heap ∧ KK g U U.heap)) (fun _ st oc t => oc = .returned r ∧ Rp g h' t.heap ∧ va_F (gF g) st t) 0 0 (gF g)
set_option maxHeartbeats 4000000 in
theorem Lm.of {g : GT} {d : Nat} {y : MethodName} {cc : ByteArray} {nL : Nat} {rt : Option FieldType} {av : List Value} {h : Hp} {r : Option Value} {h' : Hp} (hy : plainName y.cls = true) (hn : (lg_sl av).length ≤ nL)
    (walk : ∀ (Pt : Nat → List (Nat × Value) → List Value → Hp → Prop) (En : Option Value → Hp → Prop), Amb g cc y.cls d nL rt Pt En → En r h' → Pt 0 (lv_args 0 av) [] h) : Lm g d y cc nL rt av h r h' := by
  refine Met.ofW (cc := cc) (maxL := nL) (ret := rt) hy rfl ?_
  intro p e s m args below meth c s₁ B hml hv
  obtain ⟨rfl, hP, hK⟩ := hv
  have hts := atoms_spec (ws := Wd y cc nL rt) B.pre
  have hown : s.vm.findClass y.cls = some m.cls := findClass_of_methodNamed B.named
  have hx := B.exec
  have hb := B.bytes
  have hr := B.returns
  have hlocks := B.notSynchronized
  rw [lg_entry_eq]
  refine walk _ (fun r2 h2 => r2 = r ∧ h2 = h') ⟨p, e, (headSpec (Wd y cc nL rt) (rmd d)).room, s, m, av.toArray, below, meth, c, 0, 0, MQ below (fun _ st oc t => oc = .returned r ∧ Rp g h' t.heap ∧ va_F (gF g) st t) av.toArray s 0 0 (gF g), ⟨hx, hb, hml, hown, fun w hw => hts w (List.mem_cons_of_mem _ hw)⟩, hK, ⟨Nat.le_refl _, Nat.le_refl _, Nat.zero_le _, Nat.zero_le _⟩, ?_, rfl⟩ ⟨rfl, rfl⟩ _ _ [] ?_ hP va_S.rf
  · intro pc ls H locs h2 v hE hR hP2 hS
    obtain ⟨rfl, rfl⟩ := hE
    have hq : ∀ t : State, t.heap = H → s.WarmedH t.vm → (Outcome.returned v = Outcome.returned v ∧ Rp g h2 t.heap ∧ va_F (gF g) s t) := fun t ht _ => ⟨rfl, by rw [ht]; exact hP2, hS.F ht⟩
    rcases hR with ⟨x, ty, rfl, hrt, hnr, hd⟩ | ⟨x, rfl, hrt, hd⟩ | ⟨a, n, rfl, hrt, hd⟩ | ⟨rfl, hrt, hd⟩
    · exact W.zret hx hb (hr.trans hrt) hnr hq (fun q hq => hS.2.2 q hq) hd hlocks
    · exact W.lret hx hb (hr.trans hrt) hq (fun q hq => hS.2.2 q hq) hd hlocks
    · exact W.aret hx hb (hr.trans hrt) (Or.inl ⟨n, rfl⟩) (Or.inr ⟨a, rfl⟩) hq (fun q hq => hS.2.2 q hq) hd hlocks
    · exact W.vret hx hb (hr.trans hrt) hq (fun q hq => hS.2.2 q hq) hd hlocks
  · exact lv_entry av hn
/-! the pictures: X is what the lifted text gives (none: it says nothing) -/
def Lf {α : Type} (E : α → Prop) (X : Option α) (P : Prop) : Prop := ∀ x, X = some x → E x → P
def chk {α : Type} (c : Prop) [Decidable c] (X : Option α) : Option α := if c then X else none
theorem Lf_step {α : Type} {E : α → Prop} {X : Option α} {P P' : Prop} (h : P' → P) (k : Lf E X P') : Lf E X P := fun x hx he => h (k x hx he)
theorem Lf_fin {α : Type} {E : α → Prop} {x : α} {P : Prop} (h : E x → P) : Lf E (some x) P := fun y hy he => by cases hy; exact h he
theorem Lf_chk {α : Type} {E : α → Prop} {X : Option α} {P : Prop} {c : Prop} [Decidable c] (k : c → Lf E X P) : Lf E (chk c X) P := by
  intro x hx he
  unfold chk at hx
  split at hx
  · exact k ‹_› x hx he
  · cases hx
theorem Lf_cond {α : Type} {E : α → Prop} {X Y : Option α} {P P1 P2 : Prop} {c : Prop} [Decidable c] (h : (c → P1) → (¬ c → P2) → P) (k1 : c → Lf E X P1) (k2 : ¬ c → Lf E Y P2) : Lf E (if c then X else Y) P := by
  intro x hx he
  by_cases hc : c
  · rw [if_pos hc] at hx
    exact h (fun _ => k1 hc x hx he) (fun q => absurd hc q)
  · rw [if_neg hc] at hx
    exact h (fun q => absurd q hc) (fun _ => k2 hc x hx he)
theorem Lf_bind {α β : Type} {E : α → Prop} {W1 : β → Prop} {X : Option β} {G : β → Option α} {P : Prop} (h1 : Lf W1 X P) (h2 : ∀ y, Lf E (G y) (W1 y)) : Lf E (X.bind G) P := by
  intro x hx he
  cases hX : X with
  | none => rw [hX] at hx; cases hx
  | some y =>
    rw [hX] at hx
    exact h1 y hX (h2 y x hx he)
def iter {σ ρ : Type} : Nat → (σ → Option (σ ⊕ ρ)) → σ → Option ρ
  | 0, _, _ => none
  | n + 1, body, s => match body s with
    | none => none
    | some (.inl s') => iter n body s'
    | some (.inr r) => some r
theorem Lf_iter {σ ρ : Type} {E : ρ → Prop} {body : σ → Option (σ ⊕ ρ)} {Wh : σ → Prop} (hb : ∀ s, Lf (fun o : σ ⊕ ρ => match o with | .inl s' => Wh s' | .inr r => E r) (body s) (Wh s)) : ∀ (n : Nat) (s : σ), Lf E (iter n body s) (Wh s) := by
  intro n
  induction n with
  | zero => intro s x hx; cases hx
  | succ n ih =>
    intro s x hx he
    unfold iter at hx
    cases hq : body s with
    | none => rw [hq] at hx; cases hx
    | some o =>
      rw [hq] at hx
      cases o with
      | inl s' => exact hb s _ hq (ih s' x hx he)
      | inr r => cases hx; exact hb s _ hq he
