/-! Layer 2: acts, and all seasons of the class -/
def swS (p q : Int) (S : Sn) : Sn := (sK S, sL S, sP S, sN S, sT S, (fun x => if x = sQ S q then p else if x = sQ S p then q else sR S x), (fun r => if r = p then sQ S q else if r = q then sQ S p else sQ S r), sH S)
def hdS (p k : Int) (on : Bool) (S : Sn) : Sn := (sK S, sL S, sP S, sN S, sT S, sR S, sQ S, (fun r j => if r = p ∧ j = k then on else sH S r j))
theorem swS_ok {S : Sn} (hW : WF S) (hF : Full S) {p q : Int} (hp : 0 ≤ p ∧ p < sP S) (hq : 0 ≤ q ∧ q < sP S) : WF (swS p q S) ∧ Full (swS p q S) := by
  obtain ⟨hK, hL, hP, hN, hT, hR⟩ := hW
  obtain ⟨hNP, hQ⟩ := hF
  have gp := hQ p hp.1 hp.2
  have gq := hQ q hq.1 hq.2
  refine ⟨⟨hK, hL, hP, hN, hT, ?_⟩, hNP, ?_⟩
  · intro x h0 h1
    show 0 ≤ (if x = sQ S q then p else if x = sQ S p then q else sR S x) ∧ (if x = sQ S q then p else if x = sQ S p then q else sR S x) < sP S ∧ (if (if x = sQ S q then p else if x = sQ S p then q else sR S x) = p then sQ S q else if (if x = sQ S q then p else if x = sQ S p then q else sR S x) = q then sQ S p else sQ S (if x = sQ S q then p else if x = sQ S p then q else sR S x)) = x
    by_cases e1 : x = sQ S q
    · rw [if_pos e1, if_pos rfl]; exact ⟨hp.1, hp.2, e1.symm⟩
    · rw [if_neg e1]
      by_cases e2 : x = sQ S p
      · rw [if_pos e2]
        have : q ≠ p := by intro z; rw [z] at e1; exact e1 e2
        rw [if_neg this, if_pos rfl]; exact ⟨hq.1, hq.2, e2.symm⟩
      · rw [if_neg e2]
        have hr := hR x h0 h1
        have n1 : sR S x ≠ p := by intro z; rw [z] at hr; exact e2 hr.2.2.symm
        have n2 : sR S x ≠ q := by intro z; rw [z] at hr; exact e1 hr.2.2.symm
        rw [if_neg n1, if_neg n2]; exact hr
  · intro r h0 h1
    show 0 ≤ (if r = p then sQ S q else if r = q then sQ S p else sQ S r) ∧ (if r = p then sQ S q else if r = q then sQ S p else sQ S r) < sP S ∧ (if (if r = p then sQ S q else if r = q then sQ S p else sQ S r) = sQ S q then p else if (if r = p then sQ S q else if r = q then sQ S p else sQ S r) = sQ S p then q else sR S (if r = p then sQ S q else if r = q then sQ S p else sQ S r)) = r
    have gr := hQ r h0 h1
    by_cases e1 : r = p
    · rw [if_pos e1, if_pos rfl]; exact ⟨gq.1, gq.2.1, e1.symm⟩
    · rw [if_neg e1]
      by_cases e2 : r = q
      · rw [if_pos e2]
        have : sQ S p ≠ sQ S q := by
          intro z
          have a := gp.2.2
          rw [z, gq.2.2] at a
          exact e1 (e2.trans a)
        rw [if_neg this, if_pos rfl]; exact ⟨gp.1, gp.2.1, e2.symm⟩
      · rw [if_neg e2]
        have n1 : sQ S r ≠ sQ S q := by
          intro z
          have a := gr.2.2
          rw [z, gq.2.2] at a
          exact e2 a.symm
        have n2 : sQ S r ≠ sQ S p := by
          intro z
          have a := gr.2.2
          rw [z, gp.2.2] at a
          exact e1 a.symm
        rw [if_neg n1, if_neg n2]; exact gr
theorem hdS_ok {S : Sn} (hW : WF S) (hF : Full S) (p k : Int) (on : Bool) : WF (hdS p k on S) ∧ Full (hdS p k on S) := ⟨hW, hF⟩
theorem c_change {h : Hp} {o : Nat} {S : Sn} (hW : WF S) (hF : Full S) (hC : CP h o S) {p q : Int} (hp : 0 ≤ p ∧ p < sP S) (hq : 0 ≤ q ∧ q < sP S) : ∃ h', sn_changePlots h o p q = some h' ∧ CP h' o (swS p q S) ∧ ∀ a, a ≠ o + 2 → h' a = h a := by
  have e1 := c_plot hW hF hC hp
  have e2 := c_plot hW hF hC hq
  have gp := hF.2 p hp.1 hp.2
  have gq := hF.2 q hq.1 hq.2
  have hP := hW.2.2.1
  obtain ⟨c0, c1, c2, cT, cR, cH⟩ := hC
  refine ⟨up (up h (o + 2) (sQ S p) q) (o + 2) (sQ S q) p, ?_, ⟨?_, ?_, ?_, ?_, ?_, ?_⟩, ?_⟩
  · unfold sn_changePlots
    simp (disch := omega) only [e1, e2, bd_some, wr_id, chk_t, lt_eq]
  · rw [up_nk (by omega), up_nk (by omega)]; exact c0
  · rw [up_nk (by omega), up_nk (by omega)]; exact c1
  · rw [up_nk (by omega), up_nk (by omega)]; exact c2
  · rw [up_nk (by omega), up_nk (by omega)]; exact cT
  · intro x h0 h1
    show _ = if x = sQ S q then p else if x = sQ S p then q else sR S x
    by_cases z1 : x = sQ S q
    · rw [if_pos z1, z1, up_eq]
    · rw [if_neg z1, up_ni z1]
      by_cases z2 : x = sQ S p
      · rw [if_pos z2, z2, up_eq]
      · rw [if_neg z2, up_ni z2]; exact cR x h0 h1
  · rw [up_nk (by omega), up_nk (by omega)]; exact cH
  · intro a ha
    rw [up_nk ha, up_nk ha]
/-! acts -/
def ac1 (a0 a1 a2 a3 : Int → Int) (s i : Int) (S : Sn) : Sn := if a3 i = s then (if a0 i = 0 then swS (a1 i) (a2 i) S else hdS (a1 i) (a2 i) (decide (a0 i = 2)) S) else S
def acN (a0 a1 a2 a3 : Int → Int) (s : Int) (S : Sn) : Nat → Sn
  | 0 => S
  | n + 1 => ac1 a0 a1 a2 a3 s (n : Int) (acN a0 a1 a2 a3 s S n)
def acI (a0 a1 a2 a3 : Int → Int) (s : Int) (S : Sn) (n : Int) : Sn := acN a0 a1 a2 a3 s S n.toNat
theorem acI_zero (a0 a1 a2 a3 : Int → Int) (s : Int) (S : Sn) : acI a0 a1 a2 a3 s S 0 = S := rfl
theorem acI_succ (a0 a1 a2 a3 : Int → Int) (s : Int) (S : Sn) {i : Int} (h : 0 ≤ i) : acI a0 a1 a2 a3 s S (i + 1) = ac1 a0 a1 a2 a3 s i (acI a0 a1 a2 a3 s S i) := by
  unfold acI
  have e : (i + 1).toNat = i.toNat + 1 := by omega
  have e2 : ((i.toNat : Nat) : Int) = i := by omega
  rw [e, acN, e2]
def ActOk (a0 a1 a2 a3 : Int → Int) (n P K : Int) : Prop := ∀ i, 0 ≤ i → i < n → (0 ≤ a0 i ∧ a0 i ≤ 2) ∧ (0 ≤ a1 i ∧ a1 i < P) ∧ 0 ≤ a2 i ∧ (a0 i = 0 → a2 i < P) ∧ (a0 i ≠ 0 → a2 i < K) ∧ (0 ≤ a3 i ∧ a3 i ≤ 12)
/-- what stays over acts -/
def Like (S U : Sn) : Prop := sK U = sK S ∧ sL U = sL S ∧ sP U = sP S ∧ sN U = sN S ∧ sT U = sT S
theorem Like_rfl (S : Sn) : Like S S := ⟨rfl, rfl, rfl, rfl, rfl⟩
theorem Like_trans {S U V : Sn} (a : Like S U) (b : Like U V) : Like S V := ⟨b.1.trans a.1, b.2.1.trans a.2.1, b.2.2.1.trans a.2.2.1, b.2.2.2.1.trans a.2.2.2.1, b.2.2.2.2.trans a.2.2.2.2⟩
theorem ac1_ok {a0 a1 a2 a3 : Int → Int} {n : Int} {S : Sn} (hA : ActOk a0 a1 a2 a3 n (sP S) (sK S)) {i : Int} (h0 : 0 ≤ i) (h1 : i < n) (s : Int) (hW : WF S) (hF : Full S) : WF (ac1 a0 a1 a2 a3 s i S) ∧ Full (ac1 a0 a1 a2 a3 s i S) ∧ Like S (ac1 a0 a1 a2 a3 s i S) := by
  have hA := hA i h0 h1
  unfold ac1
  split
  · split
    · rename_i _ g
      have := swS_ok hW hF (p := a1 i) (q := a2 i) (by omega) ⟨hA.2.2.1, hA.2.2.2.1 g⟩
      exact ⟨this.1, this.2, Like_rfl S⟩
    · exact ⟨hW, hF, Like_rfl S⟩
  · exact ⟨hW, hF, Like_rfl S⟩
theorem acI_ok {a0 a1 a2 a3 : Int → Int} {n : Int} {S : Sn} (hA : ActOk a0 a1 a2 a3 n (sP S) (sK S)) (s : Int) (hW : WF S) (hF : Full S) : ∀ i, 0 ≤ i → i ≤ n → WF (acI a0 a1 a2 a3 s S i) ∧ Full (acI a0 a1 a2 a3 s S i) ∧ Like S (acI a0 a1 a2 a3 s S i) :=
  ind_to (P := fun i => WF (acI a0 a1 a2 a3 s S i) ∧ Full (acI a0 a1 a2 a3 s S i) ∧ Like S (acI a0 a1 a2 a3 s S i)) (n := n) ⟨hW, hF, Like_rfl S⟩ (fun i a b c => by
    rw [acI_succ _ _ _ _ _ _ a]
    have hA' : ActOk a0 a1 a2 a3 n (sP (acI a0 a1 a2 a3 s S i)) (sK (acI a0 a1 a2 a3 s S i)) := by rw [c.2.2.2.2.1, c.2.2.1]; exact hA
    have := ac1_ok hA' a b s c.1 c.2.1
    exact ⟨this.1, this.2.1, Like_trans c.2.2 this.2.2⟩)
theorem hdS_bs {c : Int → Bool} {k : Int} (hk : 0 ≤ k ∧ k < 6) (on : Bool) : (if on then ior (bs c) (ishl 1 k) else iand (bs c) (ixor (ishl 1 k) (-1))) = bs (fun j => if j = k then on else c j) := by
  rw [bs_shl k hk.1 hk.2]
  cases on
  · simp only [Bool.false_eq_true, if_false]
    rw [bs_andn]
    apply bs_congr
    intro j _ _
    by_cases e : j = k
    · simp [e]
    · simp [e]
  · simp only [if_true]
    rw [bs_ior]
    apply bs_congr
    intro j _ _
    by_cases e : j = k
    · simp [e]
    · simp [e]
theorem CP_hd {h : Hp} {o : Nat} {S : Sn} (hC : CP h o S) {p k : Int} (on : Bool) : CP (up h (o + 3) p (bs (fun j => if j = k then on else sH S p j))) o (hdS p k on S) := by
  obtain ⟨c0, c1, c2, cT, cR, cH⟩ := hC
  refine ⟨?_, ?_, ?_, ?_, ?_, ?_⟩
  · rw [up_nk (by omega)]; exact c0
  · rw [up_nk (by omega)]; exact c1
  · rw [up_nk (by omega)]; exact c2
  · rw [up_nk (by omega)]; exact cT
  · rw [up_nk (by omega)]; exact cR
  · intro r h0 h1
    show _ = bs (fun j => if r = p ∧ j = k then on else sH S r j)
    by_cases e : r = p
    · subst e; rw [up_eq]; simp only [true_and]
    · rw [up_ni e]; simp only [e, false_and, if_false]; exact cH r h0 h1
theorem c_acts {h : Hp} {o o1 : Nat} {S : Sn} (hW : WF S) (hF : Full S) (hC : CP h o1 S) (hn : 0 ≤ h o 8 ∧ h o 8 ≤ 40) (hA : ActOk (h (o + 2)) (h (o + 3)) (h (o + 4)) (h (o + 5)) (h o 8) (sP S) (sK S)) (hne : o + 5 < o1 ∨ o1 + 3 < o) {s : Int} (hs : 0 ≤ s ∧ s ≤ 12) : ∃ h', ld_actIn h o s o1 = some h' ∧ CP h' o1 (acI (h (o + 2)) (h (o + 3)) (h (o + 4)) (h (o + 5)) s S (h o 8)) ∧ ∀ a, (a < o1 + 2 ∨ o1 + 3 < a) → h' a = h a := by
  have hK := hW.1
  have hP := hW.2.2.1
  obtain ⟨g, e, r⟩ := lp (body := ld_actIn_b1 o s o1) (s0 := (0, h)) (Q := fun g => CP g o1 (acI (h (o + 2)) (h (o + 3)) (h (o + 4)) (h (o + 5)) s S (h o 8)) ∧ ∀ a, (a < o1 + 2 ∨ o1 + 3 < a) → g a = h a) (fun i t => t.1 = i ∧ CP t.2 o1 (acI (h (o + 2)) (h (o + 3)) (h (o + 4)) (h (o + 5)) s S i) ∧ ∀ a, (a < o1 + 2 ∨ o1 + 3 < a) → t.2 a = h a) (h o 8) hn.1 (by omega) ⟨rfl, hC, fun _ _ => rfl⟩ (fun i t a b hI => by
    obtain ⟨c, m⟩ := t
    obtain ⟨e, hm, f⟩ := hI
    dsimp only at e hm f
    subst e
    have ok := acI_ok hA s hW hF c a (by omega)
    have hA1 := hA c a b
    rw [acI_succ _ _ _ _ _ _ a]
    generalize acI (h (o + 2)) (h (o + 3)) (h (o + 4)) (h (o + 5)) s S c = U at hm ok
    obtain ⟨uW, uF, uK, uL, uP, uN, uT⟩ := ok
    have n8 : m o 8 = h o 8 := by rw [f o (by omega)]
    have x2 : m (o + 2) = h (o + 2) := f _ (by omega)
    have x3 : m (o + 3) = h (o + 3) := f _ (by omega)
    have x4 : m (o + 4) = h (o + 4) := f _ (by omega)
    have x5 : m (o + 5) = h (o + 5) := f _ (by omega)
    unfold ac1
    by_cases q1 : h (o + 5) c = s
    · rw [if_pos q1]
      by_cases q2 : h (o + 2) c = 0
      · rw [if_pos q2]
        have hA2 := hA1.2.2.2.1 q2
        obtain ⟨m', e', k', f'⟩ := c_change uW uF hm (p := h (o + 3) c) (q := h (o + 4) c) (by omega) (by omega)
        refine ⟨(c + 1, m'), ?_, rfl, k', ?_⟩
        · simp (disch := omega) only [ld_actIn_b1, n8, x2, x3, x4, x5, wr_id, if_pos, if_true, chk_t, q2, e', bd_some]
        · intro a' ha
          try dsimp only
          rw [f' a' (by omega), f a' ha]
      · rw [if_neg q2]
        have hA2 := hA1.2.2.2.2.1 q2
        have cH := hm.2.2.2.2.2 (h (o + 3) c) hA1.2.1.1 (by omega)
        refine ⟨(c + 1, up m (o1 + 3) (h (o + 3) c) (bs (fun j => if j = h (o + 4) c then decide (h (o + 2) c = 2) else sH U (h (o + 3) c) j))), ?_, rfl, CP_hd hm _, ?_⟩
        · rw [← hdS_bs (by omega) (decide (h (o + 2) c = 2))]
          by_cases q3 : h (o + 2) c = 2
          · simp (disch := omega) only [ld_actIn_b1, n8, x2, x3, x4, x5, wr_id, if_pos, if_neg, if_true, if_false, chk_t, q3, cH, lt_eq, bd_some, decide_true]
          · simp (disch := omega) only [ld_actIn_b1, n8, x2, x3, x4, x5, wr_id, if_pos, if_neg, if_true, if_false, chk_t, q3, cH, lt_eq, bd_some, decide_false, Bool.false_eq_true]
        · intro a' ha
          try dsimp only
          rw [up_nk (by omega), f a' ha]
    · rw [if_neg q1]
      refine ⟨(c + 1, m), ?_, rfl, hm, f⟩
      simp (disch := omega) only [ld_actIn_b1, n8, x5, wr_id, if_pos, if_neg, chk_t, bd_some]) (fun t hI => by
    obtain ⟨c, m⟩ := t
    obtain ⟨e, hm, f⟩ := hI
    dsimp only at e hm f
    subst e
    have n8 : m o 8 = h o 8 := by rw [f o (by omega)]
    exact ⟨m, by simp (disch := omega) only [ld_actIn_b1, n8, wr_id, if_neg], hm, f⟩)
  exact ⟨g, by unfold ld_actIn; rw [e]; rfl, r⟩
/-! a land -/
def LOk (l t a0 a1 a2 a3 : Int → Int) : Prop := (l 0 = 0 ∨ l 0 = 1) ∧ (0 ≤ l 1 ∧ l 1 ≤ 5) ∧ (0 ≤ l 2 ∧ l 2 ≤ 3) ∧ (0 ≤ l 3 ∧ l 3 ≤ 3) ∧ (0 ≤ l 4 ∧ l 4 ≤ 10) ∧ (0 ≤ l 5 ∧ l 5 ≤ 6) ∧ (0 ≤ l 6 ∧ l 6 ≤ 7) ∧ (0 ≤ l 8 ∧ l 8 ≤ 40) ∧ (∀ i, 0 ≤ i → i < 30 → -9 ≤ t i ∧ t i ≤ 9) ∧ (∀ p k, 0 ≤ p → p < 6 → l 1 ≤ k → k < 5 → t (p * 5 + k) = 0) ∧ ActOk a0 a1 a2 a3 (l 8) (l 5) (l 1) ∧ (l 0 = 0 → l 1 = 0 ∧ l 5 = 0 ∧ l 6 = 0 ∧ l 8 = 0) ∧ (l 0 = 1 → 1 ≤ l 1 ∧ 1 ≤ l 6)
def bgS (l t : Int → Int) : Sn := (l 1, l 2, l 5, l 5, (fun i => if 0 ≤ i ∧ i < 30 then t i else 0), (fun x => x), (fun p => p), (fun _ _ => false))
theorem bgS_ok {l t a0 a1 a2 a3 : Int → Int} (hL : LOk l t a0 a1 a2 a3) : WF (bgS l t) ∧ Full (bgS l t) := by
  obtain ⟨_, hK, hL, _, _, hP, _, _, hT, _⟩ := hL
  refine ⟨⟨hK, hL, hP, ⟨hP.1, Int.le_refl _⟩, ?_, ?_⟩, rfl, ?_⟩
  · intro i
    show -9 ≤ (if 0 ≤ i ∧ i < 30 then t i else 0) ∧ (if 0 ≤ i ∧ i < 30 then t i else 0) ≤ 9
    split
    · rename_i g; exact hT i g.1 g.2
    · omega
  · intro x h0 h1; exact ⟨h0, h1, rfl⟩
  · intro x h0 h1; exact ⟨h0, h1, rfl⟩
theorem c_begin {h : Hp} {o o0 : Nat} (hP : h o0 5 ≤ 6) (hne : o0 + 1 < o ∨ o + 3 < o0) : ∃ h', sn_beginWith h o o0 = some h' ∧ CP h' o (bgS (h o0) (h (o0 + 1))) ∧ ∀ a, (a < o ∨ o + 3 < a) → h' a = h a := by
  obtain ⟨g, eg⟩ : ∃ g, g = cpy (up (up (up h o 0 (h o0 1)) o 1 (h o0 2)) o 2 (h o0 5)) (o0 + 1) (o + 1) 0 0 30 := ⟨_, rfl⟩
  obtain ⟨g1, e1, f1, r1⟩ := lp (body := sn_beginWith_b1 o) (s0 := (0, g)) (Q := fun m => (∀ a, a ≠ o + 2 → a ≠ o + 3 → m a = g a) ∧ ∀ x, 0 ≤ x → x < 6 → m (o + 2) x = x ∧ m (o + 3) x = 0) (fun i t => t.1 = i ∧ (∀ a, a ≠ o + 2 → a ≠ o + 3 → t.2 a = g a) ∧ ∀ x, 0 ≤ x → x < i → t.2 (o + 2) x = x ∧ t.2 (o + 3) x = 0) 6 (by omega) (by omega) ⟨rfl, fun _ _ _ => rfl, fun x a b => by omega⟩ (fun i t a b hI => by
    obtain ⟨c, m⟩ := t
    obtain ⟨e, f, r⟩ := hI
    dsimp only at e f r
    subst e
    refine ⟨(c + 1, up (up m (o + 2) c c) (o + 3) c 0), ?_, rfl, ?_, ?_⟩
    · simp (disch := omega) only [sn_beginWith_b1, wr_id, if_pos, chk_t, lt_eq]
    · intro a' h1 h2
      try dsimp only
      rw [up_nk h2, up_nk h1]; exact f a' h1 h2
    · intro x h1 h2
      try dsimp only
      by_cases ex : x = c
      · subst ex
        rw [up_eq, up_nk (by omega), up_eq]; exact ⟨rfl, rfl⟩
      · rw [up_ni ex, up_ni ex, up_ni ex, up_ni ex]
        exact r x h1 (by omega)) (fun t hI => by
    obtain ⟨c, m⟩ := t
    obtain ⟨e, f, r⟩ := hI
    dsimp only at e f r
    subst e
    exact ⟨m, by simp (disch := omega) only [sn_beginWith_b1, wr_id, if_neg], f, r⟩)
  refine ⟨g1, ?_, ⟨?_, ?_, ?_, ?_, ?_, ?_⟩, ?_⟩
  · unfold sn_beginWith
    have n1 : up h o 0 (h o0 1) o0 = h o0 := up_nk (by omega)
    have n2 : up (up h o 0 (h o0 1)) o 1 (h o0 2) o0 = h o0 := by rw [up_nk (by omega)]; exact n1
    simp (disch := omega) only [lt_eq, wr_id, chk_t, n1, n2]
    rw [← eg, e1]; rfl
  · rw [f1 o (by omega) (by omega), eg]
    simp (disch := omega) only [cpy_nk, up_nk, up_ni, up_eq]; rfl
  · rw [f1 o (by omega) (by omega), eg]
    simp (disch := omega) only [cpy_nk, up_nk, up_ni, up_eq]; rfl
  · rw [f1 o (by omega) (by omega), eg]
    simp (disch := omega) only [cpy_nk, up_nk, up_ni, up_eq]; rfl
  · intro i a b
    rw [f1 _ (by omega) (by omega), eg]
    show _ = if 0 ≤ i ∧ i < 30 then h (o0 + 1) i else 0
    rw [if_pos ⟨a, b⟩]
    simp (disch := omega) only [cpy_in, up_nk, Int.sub_zero, Int.zero_add]
  · intro x a b
    have b' : x < h o0 5 := b
    exact (r1 x a (by omega)).1
  · intro x a b
    have b' : x < h o0 5 := b
    rw [(r1 x a (by omega)).2]; exact bs_zero.symm
  · intro a ha
    rw [f1 a (by omega) (by omega), eg]
    simp (disch := omega) only [cpy_nk, up_nk]
/-! all seasons -/
def seN (l t a0 a1 a2 a3 : Int → Int) : Nat → Sn
  | 0 => acI a0 a1 a2 a3 0 (bgS l t) (l 8)
  | s + 1 => acI a0 a1 a2 a3 ((s : Int) + 1) (nxS (l 3) (seN l t a0 a1 a2 a3 s)) (l 8)
theorem seN_ok {l t a0 a1 a2 a3 : Int → Int} (hL : LOk l t a0 a1 a2 a3) (s : Nat) : WF (seN l t a0 a1 a2 a3 s) ∧ Full (seN l t a0 a1 a2 a3 s) ∧ sK (seN l t a0 a1 a2 a3 s) = l 1 ∧ sL (seN l t a0 a1 a2 a3 s) = l 2 ∧ sP (seN l t a0 a1 a2 a3 s) = l 5 ∧ sN (seN l t a0 a1 a2 a3 s) = l 5 := by
  have hn := hL.2.2.2.2.2.2.2.1
  have hA := hL.2.2.2.2.2.2.2.2.2.2.1
  induction s with
  | zero =>
    have hb := bgS_ok hL
    have := acI_ok (S := bgS l t) hA 0 hb.1 hb.2 (l 8) hn.1 (Int.le_refl _)
    exact ⟨this.1, this.2.1, this.2.2.1, this.2.2.2.1, this.2.2.2.2.1, this.2.2.2.2.2.1⟩
  | succ s ih =>
    obtain ⟨hW, hF, i1, i2, i3, i4⟩ := ih
    have hW' := nxS_WF hL.2.2.2.1 hW
    have hA' : ActOk a0 a1 a2 a3 (l 8) (sP (nxS (l 3) (seN l t a0 a1 a2 a3 s))) (sK (nxS (l 3) (seN l t a0 a1 a2 a3 s))) := by
      show ActOk a0 a1 a2 a3 (l 8) (sP (seN l t a0 a1 a2 a3 s)) (sK (seN l t a0 a1 a2 a3 s))
      rw [i3, i1]; exact hA
    have := acI_ok hA' ((s : Int) + 1) hW' hF (l 8) hn.1 (Int.le_refl _)
    exact ⟨this.1, this.2.1, this.2.2.1.trans i1, this.2.2.2.1.trans i2, this.2.2.2.2.1.trans i3, this.2.2.2.2.2.1.trans i4⟩
def LOk9 (h : Hp) : Prop := LOk (h 9) (h 10) (h 11) (h 12) (h 13) (h 14)
def Sea (h : Hp) (s : Nat) : Sn := seN (h 9) (h 10) (h 11) (h 12) (h 13) (h 14) s
theorem c_seasons {h : Hp} (hL : LOk9 h) : ∃ h', iter FU sf_seasonAt_b1 (0, h) = some h' ∧ (∀ s : Nat, s < 13 → CA h' (63 + 8 * s) (Sea h s)) ∧ ∀ a, (a < 63 ∨ 166 < a) → h' a = h a := by
  have hL' := hL
  obtain ⟨l0, l1, l2, l3, l4, l5, l6, l8, lT, lZ, lA, lx⟩ := hL'
  refine lp (fun i t => t.1 = i ∧ (∀ s : Nat, (s : Int) < i → CA t.2 (63 + 8 * s) (Sea h s)) ∧ ∀ a, (a < 63 ∨ 166 < a) → t.2 a = h a) 13 (by omega) (by omega) ⟨rfl, fun s a => by omega, fun _ _ => rfl⟩ (fun i t a b hI => ?_) (fun t hI => ?_)
  · obtain ⟨c, m⟩ := t
    obtain ⟨e, r, f⟩ := hI
    dsimp only at e r f
    subst e
    have x9 : m 9 = h 9 := f _ (by omega)
    have x10 : m 10 = h 10 := f _ (by omega)
    have x11 : m 11 = h 11 := f _ (by omega)
    have x12 : m 12 = h 12 := f _ (by omega)
    have x13 : m 13 = h 13 := f _ (by omega)
    have x14 : m 14 = h 14 := f _ (by omega)
    obtain ⟨n, en⟩ : ∃ n : Nat, n = c.toNat := ⟨_, rfl⟩
    have ec : (n : Int) = c := by omega
    -- the season as it begins
    have hb : ∃ g, (if wr c = 0 then chk (0 ≤ wr c ∧ wr c < 13) (Option.bind (sn_beginWith m (63 + 8 * (wr c).toNat) 9) (fun r6 => some r6)) else chk (0 ≤ wr c ∧ wr c < 13) (chk (0 ≤ wr (c - 1) ∧ wr (c - 1) < 13) (Option.bind (sn_followOn m (63 + 8 * (wr c).toNat) (63 + 8 * (wr (c - 1)).toNat) (m 9 3)) (fun r9 => some r9)))) = some g ∧ (∃ U, WF U ∧ Full U ∧ sP U = h 9 5 ∧ sK U = h 9 1 ∧ CP g (63 + 8 * n) U ∧ acI (h 11) (h 12) (h 13) (h 14) c U (h 9 8) = Sea h n) ∧ ∀ a, (a < 63 + 8 * n ∨ 63 + 8 * n + 3 < a) → g a = m a := by
      by_cases e0 : c = 0
      · have n0 : n = 0 := by omega
        obtain ⟨g, eg, kg, fg⟩ := c_begin (h := m) (o := 63) (o0 := 9) (by rw [x9]; omega) (by omega)
        subst n0
        subst e0
        refine ⟨g, ?_, ⟨bgS (h 9) (h 10), (bgS_ok hL).1, (bgS_ok hL).2, rfl, rfl, ?_, rfl⟩, fg⟩
        · have z : (63 + 8 * (wr 0).toNat) = 63 := rfl
          rw [z, eg]; rfl
        · rw [x9, x10] at kg; exact kg
      · obtain ⟨k, ek⟩ : ∃ k : Nat, n = k + 1 := ⟨n - 1, by omega⟩
        have ok := seN_ok hL k
        obtain ⟨g, eg, kg, fg⟩ := c_followOn (o := 63 + 8 * n) (f := h 9 3) l3 ok.1 (r k (by omega)) (by omega)
        refine ⟨g, ?_, ⟨nxS (h 9 3) (Sea h k), nxS_WF l3 ok.1, ok.2.1, ok.2.2.2.2.1, ok.2.2.1, kg, ?_⟩, fg⟩
        · have z1 : 63 + 8 * c.toNat = 63 + 8 * n := by omega
          have z2 : 63 + 8 * (c - 1).toNat = 63 + 8 * k := by omega
          simp (disch := omega) only [wr_id, if_neg, chk_t, x9, z1, z2, eg, bd_some]
        · rw [ek]
          have : c = (k : Int) + 1 := by omega
          rw [this]; rfl
    obtain ⟨g, eg, ⟨U, uW, uF, uP, uK, kg, eU⟩, fg⟩ := hb
    have y9 : g 9 = h 9 := (fg _ (by omega)).trans x9
    have y11 : g 11 = h 11 := (fg _ (by omega)).trans x11
    have y12 : g 12 = h 12 := (fg _ (by omega)).trans x12
    have y13 : g 13 = h 13 := (fg _ (by omega)).trans x13
    have y14 : g 14 = h 14 := (fg _ (by omega)).trans x14
    obtain ⟨g2, e2, k2, f2⟩ := c_acts (h := g) (o := 9) (o1 := 63 + 8 * n) (S := U) (s := c) uW uF kg (by rw [y9]; exact l8) (by
      show ActOk (g 11) (g 12) (g 13) (g 14) (g 9 8) _ _
      rw [y9, y11, y12, y13, y14, uP, uK]; exact lA) (by omega) (by omega)
    have k3 : CP g2 (63 + 8 * n) (Sea h n) := by
      have k2' : CP g2 (63 + 8 * n) (acI (g 11) (g 12) (g 13) (g 14) c U (g 9 8)) := k2
      rw [y9, y11, y12, y13, y14, eU] at k2'
      exact k2'
    have ok := seN_ok hL n
    obtain ⟨g3, e3, k4, f3⟩ := c_settle ok.1 ok.2.1 k3
    refine ⟨(c + 1, g3), ?_, rfl, ?_, ?_⟩
    · have z1 : 63 + 8 * c.toNat = 63 + 8 * n := by omega
      have wc : wr c = c := wr_id (by omega)
      unfold sf_seasonAt_b1
      dsimp only
      rw [eg, bd_some, wc, wr_id (by omega), if_pos (by omega), chk_t (by omega), z1, e2, bd_some, chk_t (by omega), e3, bd_some]
    · intro s hs
      try dsimp only
      by_cases es : s = n
      · subst es; exact k4
      · refine CA_fr (r s (by omega)) (fun a h1 h2 => ?_)
        rw [f3 a (by omega), f2 a (by omega), fg a (by omega)]
    · intro a ha
      try dsimp only
      rw [f3 a (by omega), f2 a (by omega), fg a (by omega), f a ha]
  · obtain ⟨c, m⟩ := t
    obtain ⟨e, r, f⟩ := hI
    dsimp only at e r f
    subst e
    exact ⟨m, by simp (disch := omega) only [sf_seasonAt_b1, wr_id, if_neg], fun s hs => r s (by omega), f⟩
