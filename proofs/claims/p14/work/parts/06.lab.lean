/-! expiring, relabelling, and moves in arrays, without any machine -/
section
variable {g k s t : Nat} {E : List ew_E}
/-- an event stays: its session has not expired -/
noncomputable def ew_kp (g : Nat) (E : List ew_E) (l W : Nat) (x : ew_E) : Bool := ew_dc (¬ ((ew_ss g E (x.1, ew_st g (ew_M E) x.1 x.2.1)).2.2.1 + l ≤ W))
/-- a pane stays: it belongs to no session that has expired -/
noncomputable def ew_pp (g : Nat) (E : List ew_E) (l W : Nat) (p : ew_P) : Bool := ew_dc (∀ ks : Nat × Nat, ew_O g (ew_M E) ks.1 ks.2 → (ew_ss g E ks).2.2.1 + l ≤ W → ¬ ew_bl (ew_ss g E ks) p)
theorem ew_kp_p {E' : List ew_E} {l W : Nat} (h : E.Perm E') : ew_kp g E l W = ew_kp g E' l W := by
  funext x
  unfold ew_kp
  rw [ew_ss_p h, ew_Mp h]
theorem ew_pp_p {E' : List ew_E} {l W : Nat} (h : E.Perm E') : ew_pp g E l W = ew_pp g E' l W := by
  funext x
  unfold ew_pp
  rw [ew_ss_p h, ew_Mp h]
theorem ew_kp_S {l W : Nat} {v v' : Int32} (h : ew_M E k s) (h' : ew_M E k t) (S : ew_S g (ew_M E) k s t) : ew_kp g E l W (k, s, v) = ew_kp g E l W (k, t, v') := by
  unfold ew_kp
  dsimp only
  rw [ew_st_S h h' S]
theorem ew_kp_M {l W : Nat} {v : Int32} : ew_M (E.filter (ew_kp g E l W)) k t ↔ ew_M E k t ∧ ew_kp g E l W (k, t, v) = true := by
  constructor
  · rintro ⟨v', m⟩
    obtain ⟨m1, m2⟩ := List.mem_filter.mp m
    exact ⟨⟨v', m1⟩, m2⟩
  · rintro ⟨⟨v', m⟩, h⟩
    exact ⟨v', List.mem_filter.mpr ⟨m, h⟩⟩
theorem ew_exp_G {P : List ew_P} {l W : Nat} (h : ew_G g E P) : ew_G g (E.filter (ew_kp g E l W)) (P.filter (ew_pp g E l W)) := by
  obtain ⟨h1, h2, h3⟩ := h
  refine ⟨List.Pairwise.filter _ h1, ?_, Nat.le_trans (List.length_filter_le _ _) h3⟩
  intro p hp
  obtain ⟨p1, p2⟩ := List.mem_filter.mp hp
  have p3 := ew_dcI.mp p2
  obtain ⟨lt, a, b, ma, mb, sab, la, lb⟩ := h2 p p1
  have hk : ew_kp g E l W (p.1, a, 0) = true := by
    apply ew_dcI.mpr
    dsimp only
    intro c
    obtain ⟨o1, o2⟩ := ew_st_s (g := g) ma
    obtain ⟨b0, m0, s0, e0, l0, x0⟩ := ew_ss_e o1
    refine p3 (p.1, ew_st g (ew_M E) p.1 a) o1 c ⟨rfl, ?_, ?_⟩
    · show ew_st g (ew_M E) p.1 a ≤ p.2.1
      have := ew_lo o1 o2
      omega
    · rw [e0]
      have := x0 b mb (ew_St o2 sab)
      omega
  have hk2 : ew_kp g E l W (p.1, b, 0) = true := by
    rw [← ew_kp_S (v := 0) ma mb sab]
    exact hk
  refine ⟨lt, a, b, ew_kp_M.mpr ⟨ma, hk⟩, ew_kp_M.mpr ⟨mb, hk2⟩, ?_, la, lb⟩
  refine ew_restrS ?_ (fun t m => ((ew_kp_M (v := 0)).mp m).1) sab
  intro t t' m m' l1 l2
  obtain ⟨n1, n2⟩ := (ew_kp_M (v := 0)).mp m
  refine (ew_kp_M (v := 0)).mpr ⟨m', ?_⟩
  rw [ew_kp_S (v' := 0) m' n1 (ew_lk m' (Nat.le_of_lt l1) l2)]
  exact n2
/-- more events: the panes still lie in sessions -/
theorem ew_add_G {E' : List ew_E} {P : List ew_P} (sub : ∀ x, x ∈ E → x ∈ E') (h : ew_G g E P) : ew_G g E' P := by
  obtain ⟨h1, h2, h3⟩ := h
  refine ⟨h1, fun p hp => ?_, h3⟩
  obtain ⟨lt, a, b, ma, mb, sab, la, lb⟩ := h2 p hp
  have sub' : ∀ t, ew_M E p.1 t → ew_M E' p.1 t := fun t ⟨v, m⟩ => ⟨v, sub _ m⟩
  exact ⟨lt, a, b, sub' a ma, sub' b mb, ew_mono sub' ma mb sab, la, lb⟩
end
section
variable {g n i j m p : Nat} {e : Nat → ew_E} {lb lb' : Nat → Nat}
def ew_lnk (g : Nat) (e : Nat → ew_E) (i j : Nat) : Prop := (e i).1 = (e j).1 ∧ (e i).2.1 < (e j).2.1 + g ∧ (e j).2.1 < (e i).2.1 + g
theorem ew_lnk_s (h : ew_lnk g e i j) : ew_lnk g e j i := ⟨h.1.symm, h.2.2, h.2.1⟩
theorem ew_lnk_si (hi : i < n) (hj : j < n) (h : ew_lnk g e i j) : ew_si g e n i j := by
  obtain ⟨h1, h2, h3⟩ := h
  refine ⟨h1.symm, ?_⟩
  by_cases c : (e i).2.1 ≤ (e j).2.1
  · exact ew_lk (ew_iM hi) c h3
  · have m : ew_M (ew_L e n) (e j).1 (e j).2.1 := ew_iM hj
    rw [← h1] at m
    exact ew_Ss (ew_lk m (by omega) h2)
theorem ew_clo (hg : 0 < g) (C : Nat → Prop) (hC : ∀ i j, i < n → j < n → ew_lnk g e i j → C i → C j) (hi : i < n) (hj : j < n) (s : ew_si g e n i j) (h : C i) : C j := by
  have hC' : ∀ a b, ew_M (ew_L e n) (e i).1 a → ew_M (ew_L e n) (e i).1 b → a ≤ b → b < a + g → ((∃ x, x < n ∧ (e x).1 = (e i).1 ∧ (e x).2.1 = a ∧ C x) ↔ (∃ x, x < n ∧ (e x).1 = (e i).1 ∧ (e x).2.1 = b ∧ C x)) := by
    intro a b ma mb l1 l2
    obtain ⟨x, hx, x1, x2⟩ := ew_ML.mp ma
    obtain ⟨y, hy, y1, y2⟩ := ew_ML.mp mb
    constructor
    · rintro ⟨z, hz, z1, z2, z3⟩
      exact ⟨y, hy, y1, y2, hC z y hz hy ⟨by rw [z1, y1], by omega, by omega⟩ z3⟩
    · rintro ⟨z, hz, z1, z2, z3⟩
      exact ⟨x, hx, x1, x2, hC z x hz hx ⟨by rw [z1, x1], by omega, by omega⟩ z3⟩
  have mj : ew_M (ew_L e n) (e j).1 (e j).2.1 := ew_iM hj
  rw [s.1] at mj
  obtain ⟨x, hx, h1, h2, h3⟩ := (ew_cls (g := g) (fun t => ∃ x, x < n ∧ (e x).1 = (e i).1 ∧ (e x).2.1 = t ∧ C x) hC' (ew_iM hi) mj s.2).mp ⟨i, hi, rfl, rfl, h⟩
  exact hC x j hx hj ⟨by rw [h1, s.1], by omega, by omega⟩ h3
def ew_i1 (g : Nat) (e : Nat → ew_E) (n : Nat) (lb : Nat → Nat) : Prop := ∀ i, i < n → lb i < n ∧ ew_si g e n i (lb i)
/-- a pass of the relabelling takes lb to lb' -/
def ew_ps (g : Nat) (e : Nat → ew_E) (n : Nat) (lb lb' : Nat → Nat) : Prop := ew_i1 g e n lb' ∧ (∀ i, i < n → lb' i ≤ lb i) ∧ ∀ i j, i < n → j < n → ew_lnk g e i j → lb' i ≤ lb j
def ew_Q (g : Nat) (e : Nat → ew_E) (n p : Nat) (lb : Nat → Nat) : Prop := ew_i1 g e n lb ∧ ∀ m, m < n → (∀ j, j < n → ew_si g e n m j → m ≤ j) →
  (lb m = m ∧ ((∀ i, i < n → ew_si g e n m i → lb i = m) ∨ p + 1 ≤ ew_ct (fun i => ew_dc (lb i = m)) n))
theorem ew_Q0 (h : ∀ i, i < n → lb i = i) : ew_Q g e n 0 lb := by
  refine ⟨fun i hi => by rw [h i hi]; exact ⟨hi, ew_si_r⟩, fun m hm _ => ⟨h m hm, Or.inr ?_⟩⟩
  have := ew_ct_lt (p := fun _ => false) (p' := fun i => ew_dc (lb i = m)) (m := n) (x := m) (fun i _ z => by cases z) hm (fun z => by cases z) (ew_dcI.mpr (h m hm))
  omega
theorem ew_Qs (hg : 0 < g) (h : ew_Q g e n p lb) (hp : ew_ps g e n lb lb') : ew_Q g e n (p + 1) lb' := by
  obtain ⟨h1, h2⟩ := h
  obtain ⟨p1, p2, p3⟩ := hp
  refine ⟨p1, fun m hm mn => ?_⟩
  obtain ⟨a1, a2⟩ := h2 m hm mn
  have ge : ∀ i, i < n → ew_si g e n m i → m ≤ lb' i := fun i hi s => mn _ (p1 i hi).1 (ew_si_t s (p1 i hi).2)
  have keep : ∀ i, i < n → lb i = m → lb' i = m := fun i hi z => by
    have q1 := p2 i hi
    have q2 := (h1 i hi).2
    rw [z] at q2
    have q3 := ge i hi (ew_si_s q2)
    omega
  refine ⟨keep m hm a1, ?_⟩
  by_cases c : ∀ i j, i < n → j < n → ew_lnk g e i j → lb i = m → lb j = m
  · refine Or.inl fun i hi s => keep i hi ?_
    exact ew_clo hg (fun x => lb x = m) c hm hi s a1
  · rcases a2 with a2 | a2
    · exact Or.inl fun i hi s => keep i hi (a2 i hi s)
    · refine Or.inr ?_
      have c2 : ∃ i j, i < n ∧ j < n ∧ ew_lnk g e i j ∧ lb i = m ∧ ¬ lb j = m := by
        refine Classical.byContradiction fun d => c fun i j hi hj l z => ?_
        exact Classical.byContradiction fun w => d ⟨i, j, hi, hj, l, z, w⟩
      obtain ⟨i, j, hi, hj, l, z, w⟩ := c2
      have q1 := p3 j i hj hi (ew_lnk_s l)
      have q2 := (h1 i hi).2
      rw [z] at q2
      have q3 := ge j hj (ew_si_t (ew_si_s q2) (ew_lnk_si hi hj l))
      have := ew_ct_lt (p := fun i => ew_dc (lb i = m)) (p' := fun i => ew_dc (lb' i = m)) (m := n) (x := j) (fun x hx y => ew_dcI.mpr (keep x hx (ew_dcI.mp y))) hj (fun y => w (ew_dcI.mp y)) (ew_dcI.mpr (by omega))
      omega
theorem ew_Qe (h : ew_Q g e n p lb) (hp : n ≤ p) : ew_lab g e n lb := by
  intro i hi
  obtain ⟨m, ⟨hm, s⟩, mn⟩ := pk_least (fun j => j < n ∧ ew_si g e n i j) ⟨i, hi, ew_si_r⟩
  have mn' : ∀ j, j < n → ew_si g e n i j → m ≤ j := fun j hj q => Nat.not_lt.mp fun c => mn j c ⟨hj, q⟩
  obtain ⟨a1, a2⟩ := h.2 m hm (fun j hj q => mn' j hj (ew_si_t s q))
  rcases a2 with a2 | a2
  · have := a2 i hi (ew_si_s s)
    rw [this]
    exact ⟨hm, s, mn'⟩
  · have := ew_ct_le (fun i => ew_dc (lb i = m)) n
    omega
end
section
variable {α : Type} {c i m b : Nat}
theorem ew_rep (q : Nat → α) (b : Nat) (y : α) : ∀ m, b < m → (q b :: ew_L (fun j => if j = b then y else q j) m).Perm (y :: ew_L q m) := by
  intro m
  induction m with
  | zero => intro h; omega
  | succ m ih =>
    intro h
    rw [ew_Ls, ew_Ls]
    by_cases c : m = b
    · have e1 : ew_L (fun j => if j = b then y else q j) m = ew_L q m := ew_Lc (fun i hi => if_neg (by omega))
      rw [if_pos c, e1, c]
      exact ((List.perm_append_singleton y _).cons _).trans ((List.Perm.swap _ _ _).trans ((List.perm_append_singleton (q b) _).symm.cons y))
    · rw [if_neg c]
      exact (ih (by omega)).append_right [q m]
theorem ew_rmv (q : Nat → α) (h : b < m + 1) : (ew_L q (m + 1)).Perm (q b :: ew_L (fun j => if j = b then q m else q j) m) := by
  rw [ew_Ls]
  refine (List.perm_append_singleton _ _).trans ?_
  by_cases c : b = m
  · subst c
    have e1 : ew_L (fun j => if j = b then q b else q j) b = ew_L q b := ew_Lc (fun i hi => if_neg (by omega))
    rw [e1]
  · exact (ew_rep q b (q m) m (by omega)).symm
theorem ew_cpy {cur f : Nat → α} {P : α → Bool} (h : ew_L cur c = (ew_L f i).filter P) (hp : P (f i) = true) : ew_L (fun j => if j = c then f i else cur j) (c + 1) = (ew_L f (i + 1)).filter P := by
  have e1 : ew_L (fun j => if j = c then f i else cur j) c = ew_L cur c := ew_Lc (fun j hj => if_neg (by omega))
  rw [ew_Ls, ew_Ls, List.filter_append, List.filter_cons_of_pos hp, ← h, if_pos rfl, e1]
  rfl
theorem ew_cpn {cur f : Nat → α} {P : α → Bool} (h : ew_L cur c = (ew_L f i).filter P) (hp : ¬ P (f i) = true) : ew_L cur c = (ew_L f (i + 1)).filter P := by
  rw [ew_Ls, List.filter_append, List.filter_cons_of_neg hp, ← h]
  exact (List.append_nil _).symm
/-- f with x put in at place b -/
def ew_put (f : Nat → α) (x : α) (b : Nat) (j : Nat) : α := if j < b then f j else if j = b then x else f (j - 1)
theorem ew_put_p (f : Nat → α) (x : α) (b : Nat) : ∀ m, b ≤ m → (ew_L (ew_put f x b) (m + 1)).Perm (x :: ew_L f m) := by
  intro m
  induction m with
  | zero =>
    intro h
    have : b = 0 := by omega
    subst this
    have e1 : ew_put f x 0 0 = x := by
      unfold ew_put
      rw [if_neg (by omega), if_pos rfl]
    rw [ew_Ls, e1]
    exact List.Perm.refl _
  | succ m ih =>
    intro h
    rw [ew_Ls]
    by_cases c : b = m + 1
    · subst c
      have e1 : ew_put f x (m + 1) (m + 1) = x := by
        unfold ew_put
        rw [if_neg (by omega), if_pos rfl]
      have e2 : ew_L (ew_put f x (m + 1)) (m + 1) = ew_L f (m + 1) := ew_Lc (fun j hj => if_pos hj)
      rw [e1, e2]
      exact List.perm_append_singleton _ _
    · have e1 : ew_put f x b (m + 1) = f m := by
        unfold ew_put
        rw [if_neg (by omega), if_neg (by omega)]
        rfl
      rw [e1, ew_Ls f m]
      exact (ih (by omega)).append_right [f m]
theorem ew_Lp {R : α → α → Prop} {f : Nat → α} : ∀ m, (ew_L f m).Pairwise R ↔ ∀ i j, i < j → j < m → R (f i) (f j) := by
  intro m
  induction m with
  | zero => exact ⟨fun _ i j _ h => by omega, fun _ => List.Pairwise.nil⟩
  | succ m ih =>
    rw [ew_Ls, List.pairwise_append, ih]
    constructor
    · rintro ⟨h1, _, h3⟩ i j hij hj
      by_cases c : j = m
      · subst c
        exact h3 _ (ew_Lm.mpr ⟨i, hij, rfl⟩) _ List.mem_cons_self
      · exact h1 i j hij (by omega)
    · intro h
      refine ⟨fun i j hij hj => h i j hij (by omega), List.pairwise_singleton _ _, ?_⟩
      intro a ha b hb
      obtain ⟨i, hi, rfl⟩ := ew_Lm.mp ha
      rw [List.mem_singleton.mp hb]
      exact h i m hi (by omega)
end
