/-! Layer 2: orders: the class weighs all rows -/
theorem c_fillT {G : Hp} {S : Sn} (hW : WF S) (ca : CA G 63 S) (g8 : G 27 8 = sP S) : ∃ m, od_fillTables G 63 = some m ∧ (∀ a, a ≠ 29 → a ≠ 30 → m a = G a) ∧ ∀ p who, 0 ≤ p → p < sP S → -1 ≤ who → who < sP S → m 29 (p * 7 + who + 1) = wtS S p who ∧ m 30 (p * 7 + who + 1) = baS S p who := by
  have hP := hW.2.2.1
  have cf : ∀ q : Hp, (∀ a, a ≠ 29 → a ≠ 30 → q a = G a) → CA q 63 S := fun q hq => CA_fr ca (fun a _ _ => hq a (by omega) (by omega))
  obtain ⟨m, e, r1, r2⟩ := lp (body := od_fillTables_b1 63) (s0 := (0, G)) (Q := fun m => (∀ a, a ≠ 29 → a ≠ 30 → m a = G a) ∧ ∀ p who, 0 ≤ p → p < sP S → -1 ≤ who → who < sP S → m 29 (p * 7 + who + 1) = wtS S p who ∧ m 30 (p * 7 + who + 1) = baS S p who) (fun i s => s.1 = i ∧ (∀ a, a ≠ 29 → a ≠ 30 → s.2 a = G a) ∧ ∀ p who, 0 ≤ p → p < i → -1 ≤ who → who < sP S → s.2 29 (p * 7 + who + 1) = wtS S p who ∧ s.2 30 (p * 7 + who + 1) = baS S p who) (sP S) hP.1 (by omega) ⟨rfl, fun _ _ _ => rfl, fun p w a b => by omega⟩ (fun i s a b hi => by
    obtain ⟨p, g⟩ := s
    obtain ⟨q1, q2, q3⟩ := hi
    dsimp only at q1 q2 q3
    subst q1
    obtain ⟨g', e2, x1, x2, x3⟩ := lp (body := od_fillTables_b2 63 (p, g)) (s0 := (-1, g)) (Q := fun m => (∀ a, a ≠ 29 → a ≠ 30 → m a = G a) ∧ (∀ who, -1 ≤ who → who < sP S → m 29 (p * 7 + who + 1) = wtS S p who ∧ m 30 (p * 7 + who + 1) = baS S p who) ∧ ∀ j, (j < p * 7 ∨ p * 7 + 7 ≤ j) → m 29 j = g 29 j ∧ m 30 j = g 30 j) (fun i s => s.1 = -1 + i ∧ (∀ a, a ≠ 29 → a ≠ 30 → s.2 a = G a) ∧ (∀ who, -1 ≤ who → who < -1 + i → s.2 29 (p * 7 + who + 1) = wtS S p who ∧ s.2 30 (p * 7 + who + 1) = baS S p who) ∧ ∀ j, (j < p * 7 ∨ p * 7 + 7 ≤ j) → s.2 29 j = g 29 j ∧ s.2 30 j = g 30 j) (sP S + 1) (by omega) (by omega) ⟨by dsimp only; omega, q2, fun w a b => by omega, fun _ _ => ⟨rfl, rfl⟩⟩ (fun i s a' b' hi => by
      obtain ⟨w, k⟩ := s
      obtain ⟨y1, y2, y3, y4⟩ := hi
      dsimp only at y1 y2 y3 y4
      have ck := cf k y2
      have k8 : k 27 8 = sP S := by rw [y2 27 (by omega) (by omega)]; exact g8
      have gi := guS_in S p w
      have e1 := c_gu hW ck.1 ck.2.1 (p := p) (who := w) (by omega) (by omega)
      have e2 := c_ta ck.1 (p := p) (k := guS S p w) (by omega) gi
      have e3 := c_st hW ck.1 (p := p) (who := w) (k := guS S p w) (by omega) (by omega) gi
      refine ⟨(w + 1, up (up k 29 (p * 7 + w + 1) (wtS S p w)) 30 (p * 7 + w + 1) (baS S p w)), ?_, by dsimp only; omega, fun a1 h1 h2 => by dsimp only; rw [up_nk h2, up_nk h1]; exact y2 a1 h1 h2, fun v h1 h2 => ?_, fun j h1 => ?_⟩
      · simp only [od_fillTables_b2, k8]
        rw [w32 (show -1000000 ≤ w ∧ w ≤ 1000000 by omega), w32 (show -1000000 ≤ sP S ∧ sP S ≤ 1000000 by omega), if_pos (by omega), e1, bd_some, e2, bd_some, e3, bd_some, w32 (show -1000000 ≤ p * 7 + w + 1 ∧ p * 7 + w + 1 ≤ 1000000 by omega), chk_t (by omega), lt_eq, chk_t (by omega), lt_eq, w32 (show -1000000 ≤ guS S p w ∧ guS S p w ≤ 1000000 by omega), show wr (-1) = -1 from rfl]
        rfl
      · dsimp only
        by_cases z : v = w
        · rw [z, up_nk (by omega), up_eq, up_eq]; exact ⟨rfl, rfl⟩
        · rw [up_ni (by omega), up_ni (by omega), up_ni (by omega), up_ni (by omega)]
          exact y3 v h1 (by omega)
      · dsimp only
        rw [up_ni (by omega), up_ni (by omega), up_ni (by omega), up_ni (by omega)]
        exact y4 j h1) (fun s hi => by
      obtain ⟨w, k⟩ := s
      obtain ⟨y1, y2, y3, y4⟩ := hi
      dsimp only at y1 y2 y3 y4
      have k8 : k 27 8 = sP S := by rw [y2 27 (by omega) (by omega)]; exact g8
      refine ⟨k, ?_, y2, fun v h1 h2 => y3 v h1 (by omega), y4⟩
      simp only [od_fillTables_b2, k8]
      rw [w32 (show -1000000 ≤ w ∧ w ≤ 1000000 by omega), w32 (show -1000000 ≤ sP S ∧ sP S ≤ 1000000 by omega), if_neg (by omega)])
    have k8 : g 27 8 = sP S := by rw [q2 27 (by omega) (by omega)]; exact g8
    refine ⟨(p + 1, g'), ?_, rfl, x1, fun r w h1 h2 h3 h4 => ?_⟩
    · simp only [od_fillTables_b1, k8]
      rw [w32 (show -1000000 ≤ p ∧ p ≤ 1000000 by omega), w32 (show -1000000 ≤ sP S ∧ sP S ≤ 1000000 by omega), if_pos b, e2, bd_some]
    · dsimp only
      by_cases z : r = p
      · rw [z]; exact x2 w h3 h4
      · have := x3 (r * 7 + w + 1) (by omega)
        rw [this.1, this.2]; exact q3 r w h1 (by omega) h3 h4) (fun s hi => by
    obtain ⟨p, g⟩ := s
    obtain ⟨q1, q2, q3⟩ := hi
    dsimp only at q1 q2 q3
    subst q1
    have k8 : g 27 8 = sP S := by rw [q2 27 (by omega) (by omega)]; exact g8
    refine ⟨g, ?_, q2, q3⟩
    simp only [od_fillTables_b1, k8]
    rw [if_neg (Int.lt_irrefl _)])
  exact ⟨m, by unfold od_fillTables; rw [e]; rfl, r1, r2⟩
def OdIn (z : Od) : Prop := (-108 ≤ z.1 ∧ z.1 ≤ 54) ∧ (0 ≤ z.2.2.1 ∧ z.2.2.1 ≤ 6)
theorem od1_in {S : Sn} (hW : WF S) {z : Od} (hz : z = zO ∨ OdIn z) (l : List Int) : OdIn (od1 S z l) := by
  have hP := hW.2.2.1
  have wi : -108 ≤ wsR S (rwL l) (sP S) ∧ wsR S (rwL l) (sP S) ≤ 54 := ws_in hW (rwL l) (n := sP S) (sL S) (i := sP S) (by omega)
  have bi : 0 ≤ bsR S (rwL l) (sP S) ∧ bsR S (rwL l) (sP S) ≤ 6 := bw_in2 S (rwL l) (n := sP S) (sL S) (i := sP S) (by omega)
  show (-108 ≤ (if z.1 < wsR S (rwL l) (sP S) then wsR S (rwL l) (sP S) else z.1) ∧ (if z.1 < wsR S (rwL l) (sP S) then wsR S (rwL l) (sP S) else z.1) ≤ 54) ∧ (0 ≤ (if bsR S (rwL l) (sP S) < z.2.2.1 then bsR S (rwL l) (sP S) else z.2.2.1) ∧ (if bsR S (rwL l) (sP S) < z.2.2.1 then bsR S (rwL l) (sP S) else z.2.2.1) ≤ 6)
  rcases hz with e | e
  · have e1 : z.1 = -100000 := by rw [e]; rfl
    have e2 : z.2.2.1 = 100000 := by rw [e]; rfl
    rw [if_pos (by omega), if_pos (by omega)]
    exact ⟨wi, bi⟩
  · obtain ⟨h1, h2⟩ := e
    constructor
    · split <;> omega
    · split <;> omega
theorem c_rows {S : Sn} (hW : WF S) {P : Nat} (eP : (P : Int) = sP S) : ∀ (L : List (List Int)) (l : List Int) (z : Od) (m : Hp) (i : Int) (f : Nat), okC P (l :: L) = true → OT m S → (∀ x, 0 ≤ x → x < sP S → m 31 x = rwL l x) → ((i = 0 ∧ z = zO ∧ m 27 1 = 0 ∧ m 27 3 = 0) ∨ (0 < i ∧ OdM m (sP S) z ∧ OdIn z)) → i + L.length < 720 → L.length + 1 < f → ∃ m', iter f od_weigh_b2 (1, i, m) = some m' ∧ OT m' S ∧ OdM m' (sP S) ((l :: L).foldl (od1 S) z) ∧ ∀ k, k ≠ 27 → k ≠ 28 → k ≠ 31 → m' k = m k := by
  have hP := hW.2.2.1
  intro L
  induction L with
  | nil =>
    intro l z m i f hC hO hr hz hi hf
    unfold okC at hC
    have h1 := (Bool.and_eq_true _ _).mp hC
    have h2 := (Bool.and_eq_true _ _).mp h1.1
    have hrow := h2.1
    have hpv := of_decide_eq_true h2.2
    rw [eP] at hpv
    have hR : ∀ x, 0 ≤ x → x < sP S → m 31 x = rwL l x ∧ 0 ≤ rwL l x ∧ rwL l x < sP S := fun x a b => by
      have := okRow_x hrow (x := x) (by omega)
      exact ⟨hr x a b, this.1, by omega⟩
    obtain ⟨f', ef⟩ : ∃ f', f = f' + 2 := ⟨f - 2, by simp at hf; omega⟩
    subst ef
    simp at hi
    have i0 : 0 ≤ i := by rcases hz with q | q <;> omega
    obtain ⟨g, e1, g1, g2, g3⟩ := c_wRow hW hO hR (x0 := if i = 0 then 1 else 0) (z := z) (by
      rcases hz with ⟨q1, q2, q3, q4⟩ | ⟨q1, q2, q3⟩
      · exact Or.inl ⟨by rw [if_pos q1], q2, q3, q4⟩
      · exact Or.inr ⟨by rw [if_neg (by omega)], q2, q3.1, q3.2⟩)
    have e2 := (c_next (m := g) (R := rwL l) hP g1.1 (fun x a b => by rw [g3 31 (by omega) (by omega)]; exact (hR x a b).1) (fun x a b => (hR x a b).2)).1 hpv
    refine ⟨g, ?_, g1, g2, fun k a b c => g3 k a b⟩
    have eb : od_weigh_b2 (1, i, m) = some (.inl (0, i + 1, g)) := by
      unfold od_weigh_b2
      dsimp only
      rw [w32 (show -1000000 ≤ i ∧ i ≤ 1000000 by omega), show wr 720 = 720 from rfl, if_pos (by omega), if_neg (by decide), e1, bd_some, e2, bd_some]
    have eb2 : od_weigh_b2 (0, i + 1, g) = some (.inr g) := by
      unfold od_weigh_b2
      dsimp only
      rw [if_pos (show wr 0 = 0 from rfl)]
      split <;> rfl
    unfold iter
    rw [eb]
    dsimp only
    unfold iter
    rw [eb2]
  | cons l' L ih =>
    intro l z m i f hC hO hr hz hi hf
    unfold okC at hC
    have h1 := (Bool.and_eq_true _ _).mp hC
    have h2 := (Bool.and_eq_true _ _).mp h1.1
    have hrow := h2.1
    have h3 := (Bool.and_eq_true _ _).mp h2.2
    have h4 := (Bool.and_eq_true _ _).mp h3.1
    have hpv := of_decide_eq_true h4.1
    have hnx := of_decide_eq_true h4.2
    have heq : nxL P l = l' := by simpa using h3.2
    rw [eP] at hpv hnx
    have hR : ∀ x, 0 ≤ x → x < sP S → m 31 x = rwL l x ∧ 0 ≤ rwL l x ∧ rwL l x < sP S := fun x a b => by
      have := okRow_x hrow (x := x) (by omega)
      exact ⟨hr x a b, this.1, by omega⟩
    obtain ⟨f', ef⟩ : ∃ f', f = f' + 1 := ⟨f - 1, by omega⟩
    subst ef
    simp only [List.length_cons] at hi hf
    have i0 : 0 ≤ i := by rcases hz with q | q <;> omega
    obtain ⟨g, e1, g1, g2, g3⟩ := c_wRow hW hO hR (x0 := if i = 0 then 1 else 0) (z := z) (by
      rcases hz with ⟨q1, q2, q3, q4⟩ | ⟨q1, q2, q3⟩
      · exact Or.inl ⟨by rw [if_pos q1], q2, q3, q4⟩
      · exact Or.inr ⟨by rw [if_neg (by omega)], q2, q3.1, q3.2⟩)
    obtain ⟨g', e2, x1, x2⟩ := (c_next (m := g) (R := rwL l) hP g1.1 (fun x a b => by rw [g3 31 (by omega) (by omega)]; exact (hR x a b).1) (fun x a b => (hR x a b).2)).2 hpv hnx
    have hzi : OdIn (od1 S z l) := od1_in hW (by rcases hz with ⟨_, q2, _⟩ | ⟨_, _, q3⟩; exact Or.inl q2; exact Or.inr q3) l
    have hO' : OT g' S := by
      unfold OT
      rw [x1 27 (by omega), x1 29 (by omega), x1 30 (by omega)]; exact g1
    have hM' : OdM g' (sP S) (od1 S z l) := by
      unfold OdM
      rw [x1 27 (by omega), x1 28 (by omega)]; exact g2
    obtain ⟨m', e3, y1, y2, y3⟩ := ih l' (od1 S z l) g' (i + 1) f' h1.2 hO' (fun x a b => by
      rw [x2 x a b, ← heq, rwL_nx (by omega), eP]) (Or.inr ⟨by omega, hM', hzi⟩) (by omega) (by omega)
    refine ⟨m', ?_, y1, y2, fun k a b c => by rw [y3 k a b c, x1 k c, g3 k a b]⟩
    have eb : od_weigh_b2 (1, i, m) = some (.inl (1, i + 1, g')) := by
      unfold od_weigh_b2
      dsimp only
      rw [w32 (show -1000000 ≤ i ∧ i ≤ 1000000 by omega), show wr 720 = 720 from rfl, if_pos (by omega), if_neg (by decide), e1, bd_some, e2, bd_some]
    unfold iter
    rw [eb]
    exact e3
theorem pm_form {P : Nat} (hP : P < 7) : ∃ L, pm P P [] = ((List.range P).map (fun x : Nat => (x : Int))) :: L ∧ okC P (pm P P []) = true ∧ L.length < 720 := by
  have h1 := dc_hd ⟨P, hP⟩
  have h2 := dc_ok ⟨P, hP⟩
  have h3 := dc_len ⟨P, hP⟩
  dsimp only at h1 h2 h3
  cases e : pm P P [] with
  | nil => rw [e] at h1; cases h1
  | cons l L =>
    rw [e] at h1 h2 h3
    simp only [List.head?_cons, Option.some.injEq] at h1
    refine ⟨L, by rw [h1], h2, ?_⟩
    simp only [List.length_cons] at h3
    omega
theorem c_weigh {F : Hp} {S : Sn} (hW : WF S) (ca : CA F 63 S) : ∃ m, od_weigh F 63 = some m ∧ OA m S ∧ ∀ k, (k < 27 ∨ 31 < k) → m k = F k := by
  have hP := hW.2.2.1
  obtain ⟨G, eG⟩ : ∃ G, G = up (up F 27 8 (sP S)) 27 9 (sL S) := ⟨_, rfl⟩
  have gf : ∀ k, k ≠ 27 → G k = F k := fun k hk => by rw [eG, up_nk hk, up_nk hk]
  obtain ⟨m1, e1, f1, t1⟩ := c_fillT (G := G) hW (CA_fr ca (fun a x y => gf a (by omega))) (by rw [eG, up_ni (by omega), up_eq])
  obtain ⟨m2, em2⟩ : ∃ m2, m2 = up (up m1 27 1 0) 27 3 0 := ⟨_, rfl⟩
  have f2 : ∀ k, k ≠ 27 → m2 k = m1 k := fun k hk => by rw [em2, up_nk hk, up_nk hk]
  have m8 : m2 27 8 = sP S := by rw [em2, up_ni (by omega), up_ni (by omega), f1 27 (by omega) (by omega), eG, up_ni (by omega), up_eq]
  have m9 : m2 27 9 = sL S := by rw [em2, up_ni (by omega), up_ni (by omega), f1 27 (by omega) (by omega), eG, up_eq]
  obtain ⟨m3, e3, r1, r2⟩ := lp (body := od_weigh_b1) (s0 := (0, m2)) (Q := fun m => (∀ k, k ≠ 31 → m k = m2 k) ∧ ∀ x, 0 ≤ x → x < sP S → m 31 x = x) (fun i s => s.1 = i ∧ (∀ k, k ≠ 31 → s.2 k = m2 k) ∧ ∀ x, 0 ≤ x → x < i → s.2 31 x = x) (sP S) hP.1 (by omega) ⟨rfl, fun _ _ => rfl, fun x a b => by omega⟩ (fun i s a b hi => by
    obtain ⟨c, g⟩ := s
    obtain ⟨q1, q2, q3⟩ := hi
    dsimp only at q1 q2 q3
    subst q1
    have g8 : g 27 8 = sP S := by rw [q2 27 (by omega)]; exact m8
    refine ⟨(c + 1, up g 31 c c), ?_, rfl, fun k hk => by dsimp only; rw [up_nk hk]; exact q2 k hk, fun x h1 h2 => ?_⟩
    · simp only [od_weigh_b1, g8]
      rw [w32 (show -1000000 ≤ c ∧ c ≤ 1000000 by omega), w32 (show -1000000 ≤ sP S ∧ sP S ≤ 1000000 by omega), if_pos b, chk_t (by omega), lt_eq]
    · dsimp only
      by_cases z : x = c
      · rw [z, up_eq]
      · rw [up_ni z]; exact q3 x h1 (by omega)) (fun s hi => by
    obtain ⟨c, g⟩ := s
    obtain ⟨q1, q2, q3⟩ := hi
    dsimp only at q1 q2 q3
    subst q1
    have g8 : g 27 8 = sP S := by rw [q2 27 (by omega)]; exact m8
    refine ⟨g, ?_, q2, q3⟩
    simp only [od_weigh_b1, g8]
    rw [if_neg (Int.lt_irrefl _)])
  obtain ⟨L, p1, p2, p3⟩ := pm_form (P := (sP S).toNat) (by omega)
  have eP : (((sP S).toNat : Nat) : Int) = sP S := by omega
  rw [p1] at p2
  obtain ⟨m4, e4, y1, y2, y3⟩ := c_rows hW eP L _ zO m3 0 FU p2 ⟨by rw [r1 27 (by omega)]; exact m8, by rw [r1 27 (by omega)]; exact m9, fun p w a1 a2 a3 a4 => by
      rw [r1 29 (by omega), r1 30 (by omega), f2 29 (by omega), f2 30 (by omega)]; exact t1 p w a1 a2 a3 a4⟩ (fun x a b => by
      rw [r2 x a b, rwL_map (by omega)]; omega) (Or.inl ⟨rfl, rfl, by rw [r1 27 (by omega), em2, up_ni (by omega), up_eq], by rw [r1 27 (by omega), em2, up_eq]⟩) (by omega) (by unfold FU; omega)
  rw [← p1] at y2
  refine ⟨m4, ?_, ⟨y1, y2⟩, fun k hk => ?_⟩
  · have x2 : F 63 2 = sP S := ca.1.2.2.1
    have x1 : up F 27 8 (sP S) 63 1 = sL S := by rw [up_nk (by omega)]; exact ca.1.2.1
    unfold od_weigh
    rw [x2, lt_eq, x1, lt_eq, ← eG, e1, bd_some, lt_eq, lt_eq, ← em2, e3, bd_some, e4, bd_some]
  · rw [y3 k (by omega) (by omega) (by omega), r1 k (by omega), f2 k (by omega), f1 k (by omega) (by omega), gf k (by omega)]
theorem INV_ord {F G : Hp} (hI : INV F) (hf : ∀ a, (a < 27 ∨ 31 < a) → G a = F a) (hO : OA G (Sea F 0)) : INV (up G 0 12 0) := by
  obtain ⟨i1, i2, i3, i4, i5⟩ := hI
  have fa : ∀ a, a ≠ 0 → (a < 27 ∨ 31 < a) → up G 0 12 0 a = F a := fun a h1 h2 => by rw [up_nk h1, hf a h2]
  have fj : ∀ j, j ≠ 12 → up G 0 12 0 0 j = F 0 j := fun j hj => by rw [up_ni hj, hf 0 (by omega)]
  have eS : ∀ s, Sea (up G 0 12 0) s = Sea F s := Sea_fr (fun a ha => fa a (by omega) (by omega))
  refine ⟨Bas_fr i1 (fun a ha => fa a (by unfold bsc at ha; omega) (by unfold bsc at ha; omega)) (by rw [fa 167 (by omega) (by omega)]) (by rw [fa 167 (by omega) (by omega)]) (by rw [fa 167 (by omega) (by omega)]), by rw [fj 11 (by omega)]; exact i2, Or.inl (up_eq ..), ?_, ?_⟩
  · intro z s hs
    rw [fj 11 (by omega)] at z
    rw [eS]
    exact CA_fr (i4 z s hs) (fun a _ _ => fa a (by omega) (by omega))
  · intro _
    rw [eS]
    exact OA_fr (fun a _ _ => up_nk (by omega)) hO
theorem c_ordN {h m : Hp} (hI : INV h) (hM : Mf h m) : ∃ F, sf_ordersNow m = some (27, F) ∧ Mf h F ∧ OA F (Sea h 0) := by
  obtain ⟨sW, sF, eK, eL, eP, eN⟩ := Sea_ok hI 0
  rcases hM.1.2.2.1 with z | z
  · refine ⟨m, ?_, hM, ?_⟩
    · unfold sf_ordersNow
      rw [z, if_pos (show wr 0 = 0 from rfl), bd_some]
    · have := hM.1.2.2.2.2 z
      rw [Mf_Sea hM] at this
      exact this
  · obtain ⟨F, hR, hs⟩ := c_rdy hM
    have e0 : sf_seasonAt m 0 = some (63, F) := hs 0 (by omega) (by omega)
    obtain ⟨G, e1, o1, f1⟩ := c_weigh sW (rdy_c0 hR)
    have hO : OA G (Sea F 0) := by rw [Mf_Sea hR.1]; exact o1
    refine ⟨up G 0 12 0, ?_, ⟨INV_ord hR.1.1 f1 hO, fun a x y => by rw [up_nk (by omega), f1 a (by omega)]; exact hR.1.2 a x y⟩, OA_fr (fun a _ _ => up_nk (by omega)) o1⟩
    unfold sf_ordersNow
    rw [z, if_neg (by decide), e0, bd_some]
    dsimp only
    rw [chk_t sh63, e1, bd_some, lt_eq, bd_some]
