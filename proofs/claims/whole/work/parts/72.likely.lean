/-! Layer 2: likely -/
def FvP (T : Int → Int) (p : Int) (c : Int → Bool) (n r : Int) : Prop := (0 ≤ r ∧ r < n ∧ c r = true ∧ (∀ j, 0 ≤ j → j < r → c j = true → T (p * 5 + j) < T (p * 5 + r)) ∧ (∀ j, r < j → j < n → c j = true → T (p * 5 + j) ≤ T (p * 5 + r))) ∨ (r = -1 ∧ ∀ j, 0 ≤ j → j < n → c j = false)
theorem fv_spec (T : Int → Int) (p : Int) (c : Int → Bool) {n : Int} (hn : 0 ≤ n) : FvP T p c n (fv T p c n) :=
  ind_to (P := fun i => FvP T p c i (fv T p c i)) (n := n) (Or.inr ⟨rfl, fun j a b => by omega⟩) (fun i a b d => by
    rw [fv_succ T p c a]
    rcases d with ⟨d1, d2, d3, d4, d5⟩ | ⟨d1, d2⟩
    · by_cases z : c i = true ∧ (fv T p c i = -1 ∨ T (p * 5 + fv T p c i) < T (p * 5 + i))
      · rw [if_pos z]
        have z2 : T (p * 5 + fv T p c i) < T (p * 5 + i) := by
          rcases z.2 with y | y
          · omega
          · exact y
        refine Or.inl ⟨a, by omega, z.1, fun j x y w => ?_, fun j x y w => by omega⟩
        by_cases e : j < fv T p c i
        · have := d4 j x e w; omega
        · by_cases e2 : j = fv T p c i
          · rw [e2]; exact z2
          · have := d5 j (by omega) y w; omega
      · rw [if_neg z]
        refine Or.inl ⟨d1, by omega, d3, d4, fun j x y w => ?_⟩
        by_cases e : j = i
        · rw [e] at w ⊢
          have : ¬ T (p * 5 + fv T p c i) < T (p * 5 + i) := fun q => z ⟨w, Or.inr q⟩
          omega
        · exact d5 j x (by omega) w
    · by_cases z : c i = true
      · rw [if_pos ⟨z, Or.inl d1⟩]
        refine Or.inl ⟨a, by omega, z, fun j x y w => ?_, fun j x y w => by omega⟩
        have := d2 j x y; rw [w] at this; exact absurd this (by simp)
      · rw [if_neg (fun y => z y.1)]
        refine Or.inr ⟨d1, fun j x y => ?_⟩
        by_cases e : j = i
        · rw [e]; simpa using z
        · exact d2 j x (by omega)) n hn (by omega)
theorem FvP_u {T : Int → Int} {p : Int} {c : Int → Bool} {n r r' : Int} (h : FvP T p c n r) (h' : FvP T p c n r') : r = r' := by
  rcases h with ⟨a1, a2, a3, a4, a5⟩ | ⟨a1, a2⟩
  · rcases h' with ⟨b1, b2, b3, b4, b5⟩ | ⟨b1, b2⟩
    · by_cases q : r < r'
      · have x := b4 r a1 q a3; have y := a5 r' q b2 b3; omega
      · by_cases q2 : r' < r
        · have x := a4 r' b1 q2 b3; have y := b5 r q2 a2 a3; omega
        · omega
    · have := b2 r a1 a2; rw [a3] at this; exact absurd this (by simp)
  · rcases h' with ⟨b1, b2, b3, b4, b5⟩ | ⟨b1, b2⟩
    · have := a2 r' b1 b2; rw [b3] at this; exact absurd this (by simp)
    · omega
/-- of fewer, if it is among them, it is the same -/
theorem fv_sub {T : Int → Int} {p : Int} {c d : Int → Bool} {n : Int} (hn : 0 ≤ n) (hs : ∀ k, 0 ≤ k → k < n → d k = true → c k = true) (h0 : fv T p c n ≠ -1) (hf : d (fv T p c n) = true) : fv T p d n = fv T p c n := by
  refine FvP_u (fv_spec T p d hn) ?_
  rcases fv_spec T p c hn with ⟨a1, a2, a3, a4, a5⟩ | ⟨a1, a2⟩
  · exact Or.inl ⟨a1, a2, hf, fun j x y w => a4 j x y (hs j x (by omega) w), fun j x y w => a5 j x y (hs j (by omega) y w)⟩
  · exact absurd a1 h0
/-! weights of sets -/
def wpN (c : Int → Bool) (o v : Int) : Nat → Int
  | 0 => 1
  | n + 1 => if c (n : Int) = true then wpN c o v n * (if tb v (n : Int) = true then 10 - o else o) else wpN c o v n
def wpI (c : Int → Bool) (o v i : Int) : Int := wpN c o v i.toNat
theorem wpI_succ (c : Int → Bool) (o v : Int) {i : Int} (hi : 0 ≤ i) : wpI c o v (i + 1) = if c i = true then wpI c o v i * (if tb v i = true then 10 - o else o) else wpI c o v i := by
  unfold wpI
  have e : (i + 1).toNat = i.toNat + 1 := by omega
  have e2 : ((i.toNat : Nat) : Int) = i := by omega
  rw [e, wpN, e2]
theorem wpI_ext {c : Int → Bool} {o v m n : Int} (hm : 0 ≤ m) (hn : m ≤ n) (hc : ∀ k, m ≤ k → k < n → c k = false) : wpI c o v n = wpI c o v m := by
  have := ind_to (P := fun i => wpI c o v (m + i) = wpI c o v m) (n := n - m) (by rw [Int.add_zero]) (fun i a b d => by
    rw [← Int.add_assoc, wpI_succ _ _ _ (show 0 ≤ m + i by omega), if_neg (by rw [hc (m + i) (by omega) (by omega)]; simp), d]) (n - m) (by omega) (by omega)
  rw [show m + (n - m) = n by omega] at this
  exact this
theorem wpI_congr {c d : Int → Bool} {o v n : Int} (hn : 0 ≤ n) (h : ∀ k, 0 ≤ k → k < n → c k = d k) : wpI c o v n = wpI d o v n :=
  ind_to (P := fun i => wpI c o v i = wpI d o v i) (n := n) rfl (fun i a b e => by rw [wpI_succ _ _ _ a, wpI_succ _ _ _ a, h i a b, e]) n hn (by omega)
def fNt (b o v k : Nat) : Nat := bif b.testBit k then (bif v.testBit k then 10 - o else o) else 1
def WNt (b o v : Nat) : Nat := fNt b o v 0 * fNt b o v 1 * fNt b o v 2 * fNt b o v 3 * fNt b o v 4
def gVt (b o f v : Nat) : Nat := bif (v &&& b == v) then (bif v.testBit f then WNt b o v else 0) else 0
def gUt (b o f k v : Nat) : Nat := bif (v &&& b == v) then (bif v.testBit f then 0 else (bif v.testBit k then WNt b o v else 0)) else 0
def sNt (g : Nat → Nat) : Nat → Nat
  | 0 => 0
  | n + 1 => sNt g n + g n
theorem dc_sb : ∀ b v : Fin 32, sbS ((v : Nat) : Int) (tb ((b : Nat) : Int)) = ((v : Nat) &&& (b : Nat) == (v : Nat)) := by decide +kernel
theorem dc_w : ∀ b v : Fin 32, ∀ o : Fin 11, wpI (tb ((b : Nat) : Int)) ((o : Nat) : Int) ((v : Nat) : Int) 5 = ((WNt b o v : Nat) : Int) := by decide +kernel
theorem dc_t : ∀ v : Fin 32, ∀ k : Fin 6, tb ((v : Nat) : Int) ((k : Nat) : Int) = (v : Nat).testBit k := by decide +kernel
theorem dc_0 : ∀ b v : Fin 32, ∀ k : Fin 5, ((v : Nat) &&& (b : Nat) == (v : Nat)) = true → (v : Nat).testBit k = true → WNt b 10 v = 0 := by decide +kernel
theorem dc_b : ∀ b v : Fin 32, ∀ o : Fin 11, WNt b o v ≤ 100000 := by decide +kernel
theorem dc_uv : ∀ b : Fin 32, ∀ o : Fin 10, ∀ f k : Fin 5, (b : Nat).testBit f = true → k ≠ f → sNt (gUt b o f k) 32 < sNt (gVt b o f) 32 := by decide +kernel
theorem sm_cast {F : Int → Int} {g : Nat → Nat} : ∀ n : Nat, (∀ v : Nat, v < n → F (v : Int) = ((g v : Nat) : Int)) → sm (n : Int) F = ((sNt g n : Nat) : Int) := by
  intro n
  induction n with
  | zero => intro _; rfl
  | succ n ih =>
    intro h
    have e : ((n + 1 : Nat) : Int) = (n : Int) + 1 := by omega
    rw [e, sm_succ (by omega), ih (fun v hv => h v (by omega)), h n (by omega)]
    show _ = ((sNt g n + g n : Nat) : Int)
    omega
theorem sm_leF {n : Int} (hn : 0 ≤ n) {f g : Int → Int} (h : ∀ k, 0 ≤ k → k < n → f k ≤ g k) : sm n f ≤ sm n g :=
  ind_to (P := fun i => sm i f ≤ sm i g) (n := n) (by rw [sm_zero, sm_zero]; omega) (fun i a b c => by
    have := h i a b
    rw [sm_succ a, sm_succ a]; omega) n hn (by omega)
theorem sm_ext {f : Int → Int} {m n : Int} (hm : 0 ≤ m) (hn : m ≤ n) (h : ∀ k, m ≤ k → k < n → f k = 0) : sm n f = sm m f := by
  have := ind_to (P := fun i => sm (m + i) f = sm m f) (n := n - m) (by rw [Int.add_zero]) (fun i a b d => by
    rw [← Int.add_assoc, sm_succ (show 0 ≤ m + i by omega), d, h (m + i) (by omega) (by omega), Int.add_zero]) (n - m) (by omega) (by omega)
  rw [show m + (n - m) = n by omega] at this
  exact this
theorem sbS_congr {v : Int} {c d : Int → Bool} (h : ∀ k, 0 ≤ k → k < 6 → c k = d k) : sbS v c = sbS v d := by
  unfold sbS
  rw [bs_congr (c := fun k => tb v k && !c k) (d := fun k => tb v k && !d k) (fun k a b => by rw [h k a b])]
theorem sb_mem {v : Int} {c : Int → Bool} (h : sbS v c = true) {k : Int} (hk : 0 ≤ k ∧ k < 6) (ht : tb v k = true) : c k = true := by
  have := bs_eq0.mp (of_decide_eq_true h) k hk.1 hk.2
  rw [ht] at this
  simpa using this
/-- how much weight a kind has to be grown -/
def akS (T : Int → Int) (p : Int) (c : Int → Bool) (o k n : Int) : Int := sm n (fun v => if sbS v c = true ∧ fv T p (tb v) 5 = k then wpI c o v 5 else 0)
section AK
variable {T : Int → Int} {p : Int} {c : Int → Bool} {o : Int}
theorem bs32 (hc : c 5 = false) : 0 ≤ bs c ∧ bs c < 32 := by
  have h := bs_mono (c := c) (d := fun k => decide (k < 5)) (fun k a b z => by
    by_cases e : k = 5
    · rw [e, hc] at z; exact absurd z (by simp)
    · simp; omega)
  rw [bs31] at h
  have := bs_in c
  omega
theorem c_tb (hc : c 5 = false) : ∀ k, 0 ≤ k → k < 6 → c k = tb (bs c) k := by
  have := bs_tb (v := bs c) (by have := bs_in c; omega)
  exact fun k a b => (bs_ext this k a b).symm
theorem w_nat (hc : c 5 = false) (ho : 0 ≤ o ∧ o ≤ 10) {v : Nat} (hv : v < 32) : wpI c o (v : Int) 5 = ((WNt (bs c).toNat o.toNat v : Nat) : Int) := by
  have b := bs32 hc
  have := dc_w ⟨(bs c).toNat, by omega⟩ ⟨v, hv⟩ ⟨o.toNat, by omega⟩
  dsimp only at this
  rw [show (((bs c).toNat : Nat) : Int) = bs c by omega, show ((o.toNat : Nat) : Int) = o by omega] at this
  rw [wpI_congr (by omega) (fun k a b => c_tb hc k a (by omega)), this]
theorem s_nat (hc : c 5 = false) {v : Nat} (hv : v < 32) : sbS (v : Int) c = (v &&& (bs c).toNat == v) := by
  have b := bs32 hc
  have := dc_sb ⟨(bs c).toNat, by omega⟩ ⟨v, hv⟩
  dsimp only at this
  rw [show (((bs c).toNat : Nat) : Int) = bs c by omega] at this
  rw [sbS_congr (c_tb hc), this]
theorem t_nat {v : Nat} (hv : v < 32) {k : Int} (hk : 0 ≤ k ∧ k < 6) : tb (v : Int) k = v.testBit k.toNat := by
  have := dc_t ⟨v, hv⟩ ⟨k.toNat, by omega⟩
  dsimp only at this
  rw [show ((k.toNat : Nat) : Int) = k by omega] at this
  exact this
theorem w_in (hc : c 5 = false) (ho : 0 ≤ o ∧ o ≤ 10) {v : Int} (hv : 0 ≤ v ∧ v < 32) : 0 ≤ wpI c o v 5 ∧ wpI c o v 5 ≤ 100000 := by
  have b := bs32 hc
  have e : ((v.toNat : Nat) : Int) = v := by omega
  rw [← e, w_nat hc ho (by omega)]
  have := dc_b ⟨(bs c).toNat, by omega⟩ ⟨v.toNat, by omega⟩ ⟨o.toNat, by omega⟩
  dsimp only at this
  omega
theorem ak_in (hc : c 5 = false) (ho : 0 ≤ o ∧ o ≤ 10) (k : Int) {n : Int} (hn : 0 ≤ n ∧ n ≤ 32) : 0 ≤ akS T p c o k n ∧ akS T p c o k n ≤ 3200000 := by
  have := sm_le hn.1 (f := fun v => if sbS v c = true ∧ fv T p (tb v) 5 = k then wpI c o v 5 else 0) (m := 0) (M := 100000) (fun v a b => by
    have := w_in hc ho (v := v) (by omega)
    split <;> omega)
  unfold akS
  omega
theorem ak_10 (hc : c 5 = false) {k : Int} (hk : 0 ≤ k ∧ k < 5) : akS T p c 10 k 32 = 0 := by
  have b := bs32 hc
  refine sm_null (by omega) (fun v a d => ?_)
  split
  · rename_i z
    have e : ((v.toNat : Nat) : Int) = v := by omega
    have hm := fv_mem T p (tb v) (show (0 : Int) ≤ 5 by omega)
    rw [z.2] at hm
    have ht : tb v k = true := by
      rcases hm with y | y
      · omega
      · exact y
    rw [← e] at z ht ⊢
    rw [w_nat hc (by omega) (by omega)]
    rw [s_nat hc (by omega)] at z
    rw [t_nat (by omega) (by omega)] at ht
    have := dc_0 ⟨(bs c).toNat, by omega⟩ ⟨v.toNat, by omega⟩ ⟨k.toNat, by omega⟩ z.1 ht
    dsimp only at this
    show ((WNt (bs c).toNat 10 v.toNat : Nat) : Int) = 0
    rw [this]; rfl
  · rfl
theorem ak_lt (hc : c 5 = false) (ho : 0 ≤ o ∧ o ≤ 9) (hf : fv T p c 5 ≠ -1) {k : Int} (hk : 0 ≤ k ∧ k < 5) (ne : k ≠ fv T p c 5) : akS T p c o k 32 < akS T p c o (fv T p c 5) 32 := by
  have b := bs32 hc
  have fi := fv_in T p c (show (0 : Int) ≤ 5 by omega)
  have fm : c (fv T p c 5) = true := by
    rcases fv_mem T p c (show (0 : Int) ≤ 5 by omega) with y | y
    · exact absurd y hf
    · exact y
  have h1 : akS T p c o k 32 ≤ sm ((32 : Nat) : Int) (fun v => if sbS v c = true ∧ tb v (fv T p c 5) = false ∧ tb v k = true then wpI c o v 5 else 0) := sm_leF (by omega) (fun v a d => by
    have wi := w_in (o := o) hc (by omega) (v := v) (by omega)
    by_cases z : sbS v c = true ∧ fv T p (tb v) 5 = k
    · rw [if_pos z, if_pos]
      · omega
      · refine ⟨z.1, ?_, ?_⟩
        · cases y : tb v (fv T p c 5)
          · rfl
          · have := fv_sub (T := T) (p := p) (c := c) (d := tb v) (show (0 : Int) ≤ 5 by omega) (fun j x w q => sb_mem z.1 (by omega) q) hf y
            omega
        · rcases fv_mem T p (tb v) (show (0 : Int) ≤ 5 by omega) with y | y
          · omega
          · rw [z.2] at y; exact y
    · rw [if_neg z]
      split <;> omega)
  have h2 : sm ((32 : Nat) : Int) (fun v => if sbS v c = true ∧ tb v (fv T p c 5) = true then wpI c o v 5 else 0) ≤ akS T p c o (fv T p c 5) 32 := sm_leF (by omega) (fun v a d => by
    have wi := w_in (o := o) hc (by omega) (v := v) (by omega)
    by_cases z : sbS v c = true ∧ tb v (fv T p c 5) = true
    · rw [if_pos z, if_pos]
      · omega
      · exact ⟨z.1, fv_sub (T := T) (p := p) (c := c) (d := tb v) (show (0 : Int) ≤ 5 by omega) (fun j x w q => sb_mem z.1 (by omega) q) hf z.2⟩
    · rw [if_neg z]
      split <;> omega)
  have e1 := sm_cast (F := fun v => if sbS v c = true ∧ tb v (fv T p c 5) = false ∧ tb v k = true then wpI c o v 5 else 0) (g := gUt (bs c).toNat o.toNat (fv T p c 5).toNat k.toNat) 32 (fun v hv => by
    have x1 := s_nat hc hv
    have x2 := t_nat hv (k := fv T p c 5) (by omega)
    have x3 := t_nat hv (k := k) (by omega)
    have x4 := w_nat (o := o) hc (by omega) hv
    unfold gUt
    rw [x1, x2, x3, x4]
    cases (v &&& (bs c).toNat == v) <;> cases v.testBit (fv T p c 5).toNat <;> cases v.testBit k.toNat <;> simp)
  have e2 := sm_cast (F := fun v => if sbS v c = true ∧ tb v (fv T p c 5) = true then wpI c o v 5 else 0) (g := gVt (bs c).toNat o.toNat (fv T p c 5).toNat) 32 (fun v hv => by
    have x1 := s_nat hc hv
    have x2 := t_nat hv (k := fv T p c 5) (by omega)
    have x4 := w_nat (o := o) hc (by omega) hv
    unfold gVt
    rw [x1, x2, x4]
    cases (v &&& (bs c).toNat == v) <;> cases v.testBit (fv T p c 5).toNat <;> simp)
  have bt : (bs c).toNat.testBit (fv T p c 5).toNat = true := by
    rw [← t_nat (v := (bs c).toNat) (by omega) (k := fv T p c 5) (by omega), show (((bs c).toNat : Nat) : Int) = bs c by omega, ← c_tb hc _ (by omega) (by omega)]
    exact fm
  have := dc_uv ⟨(bs c).toNat, by omega⟩ ⟨o.toNat, by omega⟩ ⟨(fv T p c 5).toNat, by omega⟩ ⟨k.toNat, by omega⟩ bt (by
    intro z
    have := congrArg (fun x : Fin 5 => x.val) z
    dsimp only at this
    omega)
  dsimp only at this
  omega
end AK
theorem m_lik3 {u : Hp} {S : Sn} (hW : WF S) {c : Int → Bool} {o v : Int} (c0 : u 174 0 = sK S) (c3 : u 174 3 = o) (hv : 0 ≤ v ∧ v < 64) : iter FU (md_likely_b3 (bs c) (v, u)) (1, 0) = some (wpI c o v (sK S)) := by
  have hK := hW.1
  refine lp_fn (body := md_likely_b3 (bs c) (v, u)) (s0 := (1, 0)) (fun i => (wpI c o v i, i)) (sK S) (wpI c o v (sK S)) hK.1 (by omega) rfl (fun i a b => ?_) ?_
  · have h1 := m_isBit u c (k := i) (by omega)
    have h2 := m_isBit u (tb v) (k := i) (by omega)
    rw [bs_tb hv] at h2
    rw [wpI_succ _ _ _ a]
    simp only [md_likely_b3, md_kindsAll, c0, c3, bd_some, h1, h2]
    rw [w32 (show -1000000 ≤ i ∧ i ≤ 1000000 by omega), w32 (show -1000000 ≤ sK S ∧ sK S ≤ 1000000 by omega), if_pos b]
    cases c i
    · rfl
    · cases tb v i
      · rfl
      · rfl
  · simp only [md_likely_b3, md_kindsAll, c0, bd_some]
    rw [if_neg (by omega)]
theorem m_lik1 (u : Hp) : ∃ m, iter FU md_likely_b1 (0, u) = some m ∧ (∀ a, a ≠ 185 → m a = u a) ∧ ∀ j, 0 ≤ j → j < 6 → m 185 j = 0 := by
  refine lp (fun i s => s.1 = i ∧ (∀ a, a ≠ 185 → s.2 a = u a) ∧ ∀ j, 0 ≤ j → j < i → s.2 185 j = 0) 6 (by omega) (by omega) ⟨rfl, fun _ _ => rfl, fun j a b => by omega⟩ (fun i s a b hi => ?_) (fun s hi => ?_)
  · obtain ⟨c, m⟩ := s
    obtain ⟨q1, q2, q3⟩ := hi
    dsimp only at q1 q2 q3
    subst q1
    refine ⟨(c + 1, up m 185 c 0), ?_, rfl, fun a' h1 => ?_, fun j h1 h2 => ?_⟩
    · unfold md_likely_b1
      dsimp only
      rw [w32 (show -1000000 ≤ c ∧ c ≤ 1000000 by omega), show wr 6 = 6 from rfl, if_pos b, chk_t (by omega), lt_eq]
    · dsimp only; rw [up_nk h1]; exact q2 a' h1
    · dsimp only
      by_cases e : j = c
      · rw [e, up_eq]
      · rw [up_ni e]; exact q3 j h1 (by omega)
  · obtain ⟨c, m⟩ := s
    obtain ⟨q1, q2, q3⟩ := hi
    dsimp only at q1 q2 q3
    subst q1
    refine ⟨m, ?_, q2, q3⟩
    unfold md_likely_b1
    dsimp only
    rw [if_neg (by decide)]
theorem m_lik2 {u : Hp} {S : Sn} (hW : WF S) (hM : MP u S) {p q o : Int} (hp : 0 ≤ p ∧ p < sP S) (ho : 0 ≤ o ∧ o ≤ 10) (c3 : u 174 3 = o) (z0 : ∀ j, 0 ≤ j → j < 6 → u 185 j = 0) : ∃ m, iter FU (md_likely_b2 p (bs (opS S q))) (0, u) = some m ∧ (∀ a, a ≠ 185 → m a = u a) ∧ ∀ k, -1 ≤ k → k < 5 → m 185 (1 + k) = akS (sT S) p (opS S q) o k 32 := by
  have hK := hW.1
  have c0 := hM.1
  have c5 : opS S q 5 = false := op_lt hK.2
  have pw := pow_in (sK S) hK.1 (by omega)
  have wpw : wr (ishl 1 (sK S)) = ishl 1 (sK S) := wr_ishl _ _
  have le : bs (opS S q) + 1 ≤ ishl 1 (sK S) := by
    have h1 : bs (opS S q) ≤ bs (fun k => decide (k < sK S)) := bs_mono (fun k a b z => by
      by_cases y : k < sK S
      · simp [y]
      · rw [op_lt (by omega)] at z; exact absurd z (by simp))
    rw [← bs_shl1 (sK S) hK.1 (by omega)] at h1
    omega
  obtain ⟨m, e, r1, r2⟩ := lp (body := md_likely_b2 p (bs (opS S q))) (s0 := (0, u)) (Q := fun m => (∀ a, a ≠ 185 → m a = u a) ∧ ∀ k, -1 ≤ k → k < 5 → m 185 (1 + k) = akS (sT S) p (opS S q) o k (ishl 1 (sK S))) (fun i s => s.1 = i ∧ (∀ a, a ≠ 185 → s.2 a = u a) ∧ ∀ k, -1 ≤ k → k < 5 → s.2 185 (1 + k) = akS (sT S) p (opS S q) o k i) (ishl 1 (sK S)) (by omega) (by omega) ⟨rfl, fun _ _ => rfl, fun k a b => by dsimp only; rw [z0 (1 + k) (by omega) (by omega)]; rfl⟩ (fun i s a b hi => by
    obtain ⟨v, m⟩ := s
    obtain ⟨q1, q2, q3⟩ := hi
    dsimp only at q1 q2 q3
    subst q1
    have hv : 0 ≤ v ∧ v < 64 := by omega
    have m0 : m 174 0 = sK S := by rw [q2 174 (by omega)]; exact c0
    have m3 : m 174 3 = o := by rw [q2 174 (by omega)]; exact c3
    have hMm : MP m S := MP_fr hM (q2 174 (by omega)) (by rw [q2 167 (by omega)]) (fun a x y => q2 a (by omega))
    have suc : ∀ k, akS (sT S) p (opS S q) o k (v + 1) = akS (sT S) p (opS S q) o k v + (if sbS v (opS S q) = true ∧ fv (sT S) p (tb v) 5 = k then wpI (opS S q) o v 5 else 0) := fun k => sm_succ a _
    by_cases zs : sbS v (opS S q) = true
    · have e3 := m_lik3 hW (c := opS S q) m0 m3 hv
      rw [← wpI_ext (c := opS S q) (n := 5) hK.1 hK.2 (fun k x y => op_lt x)] at e3
      have el := m_liked hW hMm hp (c := tb v) (fun k x y => by
        cases w : tb v k
        · rfl
        · have := sb_mem zs (by omega) w
          rw [op_lt x] at this; exact absurd this (by simp))
      rw [bs_tb hv] at el
      have fi := fv_in (sT S) p (tb v) (show (0 : Int) ≤ 5 by omega)
      refine ⟨(v + 1, up m 185 (1 + fv (sT S) p (tb v) 5) (m 185 (1 + fv (sT S) p (tb v) 5) + wpI (opS S q) o v 5)), ?_, rfl, fun a' h1 => ?_, fun k h1 h2 => ?_⟩
      · simp only [md_likely_b2, md_kindsAll, m0, bd_some, sb_cond hv]
        rw [wpw, w32 (show -1000000 ≤ v ∧ v ≤ 1000000 by omega), if_pos b, if_pos zs, e3, bd_some, el, bd_some, w32 (show -1000000 ≤ 1 + fv (sT S) p (tb v) 5 ∧ 1 + fv (sT S) p (tb v) 5 ≤ 1000000 by omega), chk_t (by omega), chk_t (by omega), lt_eq, bd_some]
      · dsimp only; rw [up_nk h1]; exact q2 a' h1
      · dsimp only
        rw [suc k]
        by_cases ek : fv (sT S) p (tb v) 5 = k
        · rw [if_pos ⟨zs, ek⟩, ek, up_eq, q3 k h1 h2]
        · rw [if_neg (fun y => ek y.2), up_ni (by omega), q3 k h1 h2, Int.add_zero]
    · refine ⟨(v + 1, m), ?_, rfl, q2, fun k h1 h2 => ?_⟩
      · simp only [md_likely_b2, md_kindsAll, m0, bd_some, sb_cond hv]
        rw [wpw, w32 (show -1000000 ≤ v ∧ v ≤ 1000000 by omega), if_pos b, if_neg zs, bd_some]
      · dsimp only
        rw [suc k, if_neg (fun y => zs y.1), q3 k h1 h2, Int.add_zero]) (fun s hi => by
    obtain ⟨v, m⟩ := s
    obtain ⟨q1, q2, q3⟩ := hi
    dsimp only at q1 q2 q3
    subst q1
    have m0 : m 174 0 = sK S := by rw [q2 174 (by omega)]; exact c0
    refine ⟨m, ?_, q2, q3⟩
    simp only [md_likely_b2, md_kindsAll, m0, bd_some]
    rw [wpw, if_neg (by omega)])
  refine ⟨m, e, r1, fun k h1 h2 => ?_⟩
  rw [r2 k h1 h2]
  unfold akS
  refine (sm_ext (by omega) (by omega) (fun v x y => if_neg (fun w => ?_))).symm
  have := sb_le (v := v) (by omega) w.1
  omega
theorem m_lik4 {m : Hp} {A : Int → Int} {K : Int} (hK : 0 ≤ K ∧ K ≤ 5) (c0 : m 174 0 = K) (hA : ∀ k, 0 ≤ k → k < K → m 185 (1 + k) = A k ∧ 0 ≤ A k ∧ A k ≤ 3200000) {f : Int} (hf : (f = -1 ∧ ∀ k, 0 ≤ k → k < K → A k = 0) ∨ (0 ≤ f ∧ f < K ∧ 0 < A f ∧ ∀ k, 0 ≤ k → k < K → k ≠ f → A k < A f)) : iter FU (md_likely_b4 m) (-1, 0, 0) = some f := by
  obtain ⟨r, e, q⟩ := lp (body := md_likely_b4 m) (s0 := (-1, 0, 0)) (Q := fun r => r = f) (fun i s => s.2.2 = i ∧ (0 ≤ s.2.1 ∧ s.2.1 ≤ 3200000) ∧ ((f = -1 ∨ i ≤ f) → (f = -1 → s.1 = -1 ∧ s.2.1 = 0) ∧ (f ≠ -1 → s.2.1 < A f)) ∧ (0 ≤ f → f < i → s.1 = f ∧ s.2.1 = A f)) K hK.1 (by omega) ⟨rfl, by dsimp only; omega, fun _ => ⟨fun _ => ⟨rfl, rfl⟩, fun z => by dsimp only; rcases hf with y | y <;> omega⟩, fun x y => by omega⟩ (fun i s a b hi => by
    obtain ⟨bk, w, c⟩ := s
    obtain ⟨q1, q2, q3, q4⟩ := hi
    dsimp only at q1 q2 q3 q4
    subst q1
    have hc := hA c a b
    have eb : md_likely_b4 m (bk, w, c) = Option.bind (if A c ≤ w then some (bk, w) else some (c, A c)) (fun s40 : Int × Int => some (.inl (s40.1, s40.2, c + 1))) := by
      simp only [md_likely_b4, md_kindsAll, c0, bd_some]
      rw [w32 (show -1000000 ≤ c ∧ c ≤ 1000000 by omega), w32 (show -1000000 ≤ K ∧ K ≤ 1000000 by omega), if_pos b, w32 (show -1000000 ≤ 1 + c ∧ 1 + c ≤ 1000000 by omega), chk_t (by omega), chk_t (by omega), hc.1, wr_id (show -2147483648 ≤ A c ∧ A c < 2147483648 by omega), wr_id (show -2147483648 ≤ w ∧ w < 2147483648 by omega)]
    rw [eb]
    by_cases z : A c ≤ w
    · rw [if_pos z, bd_some]
      refine ⟨_, rfl, rfl, q2, fun y => ?_, fun x y => ?_⟩
      · exact q3 (by omega)
      · by_cases e : f = c
        · have := (q3 (by omega)).2 (by omega)
          subst e
          omega
        · exact q4 x (by omega)
    · rw [if_neg z, bd_some]
      refine ⟨_, rfl, rfl, by dsimp only; omega, fun y => ⟨fun x => ?_, fun x => ?_⟩, fun x y => ?_⟩
      · rcases hf with ⟨u1, u2⟩ | ⟨u1, _⟩
        · have := u2 c a b; have := (q3 (Or.inl u1)).1 u1; omega
        · omega
      · dsimp only
        rcases hf with ⟨u1, u2⟩ | ⟨u1, u2, u3, u4⟩
        · omega
        · exact u4 c a b (by omega)
      · dsimp only
        by_cases e : f = c
        · rw [e]; exact ⟨rfl, rfl⟩
        · have h1 := q4 x (by omega)
          rcases hf with ⟨u1, u2⟩ | ⟨u1, u2, u3, u4⟩
          · omega
          · have := u4 c a b (fun q => e q.symm); omega) (fun s hi => by
    obtain ⟨bk, w, c⟩ := s
    obtain ⟨q1, q2, q3, q4⟩ := hi
    dsimp only at q1 q2 q3 q4
    subst q1
    refine ⟨bk, ?_, ?_⟩
    · simp only [md_likely_b4, md_kindsAll, c0, bd_some]
      rw [if_neg (by omega)]
    · rcases hf with ⟨u1, u2⟩ | ⟨u1, u2, u3, u4⟩
      · rw [u1]; exact ((q3 (Or.inl u1)).1 u1).1
      · exact (q4 u1 u2).1)
  rw [e, q]
theorem st_likely : St_likely INV := by
  intro h hI a1 w1
  have n1 : ¬ wr 1 = 0 := by decide
  have n0 : wr 0 = 0 := rfl
  have lO := (INV_l hI).2.2.2.2.1
  have lP := (INV_l hI).2.2.2.2.2.1
  by_cases g : 0 ≤ a1 ∧ a1 < h 9 5
  · obtain ⟨sW, sF, eK, eL, eP, eN⟩ := Sea_ok hI 0
    obtain ⟨F, hR, hs⟩ := c_rdy (Mf_rfl hI)
    have e0 : sf_seasonAt h 0 = some (63, F) := hs 0 (by omega) (by omega)
    have ca := rdy_c0 hR
    have e5 : F (63 + 5) a1 = dpS (Sea h 0) a1 := ca.2.2.1 a1 g.1 (by omega)
    have e6 : F (63 + 6) a1 = grS (Sea h 0) a1 := ca.2.2.2.1 a1 g.1 (by omega)
    have hd := dpS_in sW sF (p := a1) (by omega)
    have m0 : Mf h (up F 167 0 0) := Mf_up hR.1 (by omega) (by omega) (by omega)
    obtain ⟨u, et, kB, kA, mu⟩ := Mf_first m0
    have ed := m_decF sW sF kA.1 (p := a1) (by omega)
    have ec : sf_likely h a1 = some (if dpS (Sea h 0) a1 = -1 then grS (Sea h 0) a1 else if h 9 4 = 10 then -1 else grS (Sea h 0) a1, F) := by
      unfold sf_likely
      rw [c_isP hI w1, bd_some, bI_t g, if_neg n1, e0, bd_some]
      dsimp only
      rw [chk_t sh63, w1, chk_t (by omega)]
      simp only [e5, e6, Mf_9 hR.1]
      rw [w32 (show -1000000 ≤ dpS (Sea h 0) a1 ∧ dpS (Sea h 0) a1 ≤ 1000000 by omega), w32 (show -1000000 ≤ h 9 4 ∧ h 9 4 ≤ 1000000 by omega), show wr (-1) = -1 from rfl, show wr 10 = 10 from rfl, chk_t (by omega)]
      by_cases z : dpS (Sea h 0) a1 = -1
      · rw [if_pos z, if_pos z]
      · rw [if_neg z, if_neg z]
        by_cases z2 : h 9 4 = 10
        · rw [if_pos z2, if_pos z2]
        · rw [if_neg z2, if_neg z2]
    by_cases z : dpS (Sea h 0) a1 = -1
    · have eg := MA_g sF kA (p := a1) (by omega)
      refine ⟨_, F, grS (Sea h 0) a1, u, ec, ?_, ?_, mu.1⟩
      · unfold md_likely
        rw [lt_eq, Mf_isP hI m0 w1, bd_some, bI_t g, if_neg n1, et, bd_some, ed, bd_some, z, if_pos rfl, w1, chk_t (by omega), eg]
      · rw [if_pos z]
    · obtain ⟨v, e1, f1, z1⟩ := m_lik1 u
      have mv : Mf h v := Mf_scr mu (fun a ha => f1 a (by omega))
      have hMv : MP v (Sea h 0) := MP_fr kA.1 (f1 174 (by omega)) (by rw [f1 167 (by omega)]) (fun a x y => f1 a (by omega))
      have eo := m_open sW hMv (p := dpS (Sea h 0) a1) (by omega)
      obtain ⟨t, e2, f2, z2⟩ := m_lik2 sW hMv (p := a1) (q := dpS (Sea h 0) a1) (o := h 9 4) (by omega) lO (Mf_n mv).2.2.2.1 z1
      have mt : Mf h t := Mf_scr mv (fun a ha => f2 a (by omega))
      have c5 : opS (Sea h 0) (dpS (Sea h 0) a1) 5 = false := op_lt sW.1.2
      have eal := al_op (S := Sea h 0) z
      have egr : grS (Sea h 0) a1 = fv (sT (Sea h 0)) a1 (opS (Sea h 0) (dpS (Sea h 0) a1)) 5 := by
        unfold grS guS
        rw [eal]
      have gl := grS_lt sW a1
      have gi := grS_in (Sea h 0) a1
      have e3 := m_lik4 (m := t) (A := fun k => akS (sT (Sea h 0)) a1 (opS (Sea h 0) (dpS (Sea h 0) a1)) (h 9 4) k 32) (K := sK (Sea h 0)) sW.1 (by rw [(Mf_n mt).1, eK]) (fun k x y => ⟨z2 k (by omega) (by have := sW.1; omega), ak_in c5 lO k (by omega)⟩) (f := if h 9 4 = 10 then -1 else grS (Sea h 0) a1) (by
        by_cases y : h 9 4 = 10
        · rw [if_pos y]
          refine Or.inl ⟨rfl, fun k x w => ?_⟩
          have := sW.1
          rw [y]
          exact ak_10 c5 (by omega)
        · rw [if_neg y]
          by_cases x : grS (Sea h 0) a1 = -1
          · refine Or.inl ⟨x, fun k u w => ?_⟩
            have hK := sW.1
            refine sm_null (by omega) (fun v q r => if_neg (fun y => ?_))
            rcases fv_spec (sT (Sea h 0)) a1 (opS (Sea h 0) (dpS (Sea h 0) a1)) (show (0 : Int) ≤ 5 by omega) with ⟨b1, _⟩ | ⟨b1, b2⟩
            · rw [← egr] at b1; omega
            · rcases fv_mem (sT (Sea h 0)) a1 (tb v) (show (0 : Int) ≤ 5 by omega) with s1 | s1
              · omega
              · rw [y.2] at s1
                have := sb_mem y.1 (by omega) s1
                rw [b2 k u (by omega)] at this
                exact absurd this (by simp)
          · refine Or.inr ⟨by omega, by omega, ?_, ?_⟩
            · have hK := sW.1
              have : ∃ k, 0 ≤ k ∧ k < 5 ∧ k ≠ grS (Sea h 0) a1 := by
                by_cases q : grS (Sea h 0) a1 = 0
                · exact ⟨1, by omega, by omega, by omega⟩
                · exact ⟨0, by omega, by omega, by omega⟩
              obtain ⟨k, k1, k2, k3⟩ := this
              have h1 := ak_lt (T := sT (Sea h 0)) (p := a1) (o := h 9 4) c5 (by omega) (by rw [← egr]; exact x) (k := k) ⟨k1, k2⟩ (by rw [← egr]; exact k3)
              have h2 := ak_in (T := sT (Sea h 0)) (p := a1) (o := h 9 4) c5 lO k (n := 32) (by omega)
              rw [← egr] at h1
              omega
            · intro k k1 k2 k3
              have hK := sW.1
              have h1 := ak_lt (T := sT (Sea h 0)) (p := a1) (o := h 9 4) c5 (by omega) (by rw [← egr]; exact x) (k := k) ⟨k1, by omega⟩ (by rw [← egr]; exact k3)
              rw [← egr] at h1
              exact h1)
      refine ⟨_, F, if h 9 4 = 10 then -1 else grS (Sea h 0) a1, t, ec, ?_, ?_, mt.1⟩
      · unfold md_likely
        rw [lt_eq, Mf_isP hI m0 w1, bd_some, bI_t g, if_neg n1, et, bd_some, ed, bd_some, if_neg (by rw [w32 (show -1000000 ≤ dpS (Sea h 0) a1 ∧ dpS (Sea h 0) a1 ≤ 1000000 by omega)]; exact z), e1, bd_some, eo, bd_some, e2, bd_some, e3, bd_some]
      · rw [if_neg z]
  · have m0 : Mf h (up h 167 0 0) := Mf_self hI
    refine ⟨-2, h, -2, up h 167 0 0, ?_, ?_, rfl, m0.1⟩
    · unfold sf_likely
      rw [c_isP hI w1, bd_some, bI_f g, if_pos n0]
    · unfold md_likely
      rw [lt_eq, Mf_isP hI m0 w1, bd_some, bI_f g, if_pos n0]
