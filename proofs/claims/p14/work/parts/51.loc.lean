/-! parts of the events that no link leaves -/
section
variable {g k a b o : Nat} {M N : Nat → Nat → Prop}
def fw_cl (g : Nat) (N M : Nat → Nat → Prop) : Prop := (∀ k t, N k t → M k t) ∧ ∀ k t t', N k t → M k t' → t < t' + g → t' < t + g → N k t'
theorem fw_O (h : fw_cl g N M) : ew_O g N k o ↔ ew_O g M k o ∧ N k o := by
  constructor
  · intro ho
    exact ⟨ew_restr (fun t t' n m l1 l2 => h.2 k t t' n m l2 (by omega)) (h.1 k) ho, ho.1⟩
  · rintro ⟨ho, n⟩
    exact ⟨n, fun t' n' l => ho.2 t' (h.1 k t' n') l⟩
theorem fw_S (h : fw_cl g N M) (ha : N k a) (hb : N k b) : ew_S g M k a b ↔ ew_S g N k a b := by
  constructor
  · intro s
    exact ew_restrS (fun t t' n m l1 l2 => h.2 k t t' n m l2 (by omega)) (h.1 k) s
  · intro s
    have key : ∀ x y, N k x → N k y → x ≤ y → y < x + g → (ew_S g M k a x ↔ ew_S g M k a y) := by
      intro x y nx ny l1 l2
      have l := ew_lk (h.1 k x nx) l1 l2
      exact ⟨fun z => ew_St z l, fun z => ew_St z (ew_Ss l)⟩
    exact (ew_cls (g := g) (fun t => ew_S g M k a t) key ha hb s).mp ew_Sr
theorem fw_in (h : fw_cl g N M) (ha : N k a) (hb : M k b) (s : ew_S g M k a b) : N k b := by
  have key : ∀ x y, M k x → M k y → x ≤ y → y < x + g → (N k x ↔ N k y) := by
    intro x y mx my l1 l2
    exact ⟨fun z => h.2 k x y z my (by omega) l2, fun z => h.2 k y x z mx l2 (by omega)⟩
  exact (ew_cls (g := g) (fun t => N k t) key (h.1 k a ha) hb s).mp ha
end
section
variable {g k a b s : Nat} {E E1 E2 : List ew_E}
theorem fw_Ma : ew_M (E1 ++ E2) k a ↔ ew_M E1 k a ∨ ew_M E2 k a := by
  constructor
  · rintro ⟨v, h⟩
    rcases List.mem_append.mp h with h | h
    · exact Or.inl ⟨v, h⟩
    · exact Or.inr ⟨v, h⟩
  · rintro (⟨v, h⟩ | ⟨v, h⟩)
    · exact ⟨v, List.mem_append.mpr (Or.inl h)⟩
    · exact ⟨v, List.mem_append.mpr (Or.inr h)⟩
/-- E falls into E1 and E2, and no link goes from one to the other -/
def fw_sp (g : Nat) (E E1 E2 : List ew_E) : Prop := E.Perm (E1 ++ E2) ∧ ∀ k a b, ew_M E1 k a → ew_M E2 k b → a + g ≤ b ∨ b + g ≤ a
theorem fw_sp_s (h : fw_sp g E E1 E2) : fw_sp g E E2 E1 := ⟨h.1.trans List.perm_append_comm, fun k a b x y => (h.2 k b a y x).symm⟩
theorem fw_sp_c (h : fw_sp g E E1 E2) : fw_cl g (ew_M E1) (ew_M E) := by
  rw [ew_Mp h.1]
  refine ⟨fun k t n => fw_Ma.mpr (Or.inl n), fun k t t' n m l1 l2 => ?_⟩
  rcases fw_Ma.mp m with z | z
  · exact z
  · have := h.2 k t t' n z
    omega
theorem fw_sp_O (h : fw_sp g E E1 E2) : ew_O g (ew_M E) k s ↔ ew_O g (ew_M E1) k s ∨ ew_O g (ew_M E2) k s := by
  rw [fw_O (fw_sp_c h), fw_O (fw_sp_c (fw_sp_s h))]
  constructor
  · intro ho
    have m := ho.1
    rw [ew_Mp h.1] at m
    rcases fw_Ma.mp m with z | z
    · exact Or.inl ⟨ho, z⟩
    · exact Or.inr ⟨ho, z⟩
  · rintro (z | z)
    · exact z.1
    · exact z.1
theorem fw_sp_f (h : fw_sp g E E1 E2) (hg : 0 < g) (hN : ew_M E1 k s) : (E.filter (ew_cl g E k s)).Perm (E1.filter (ew_cl g E1 k s)) := by
  refine (h.1.filter _).trans ?_
  rw [List.filter_append]
  have e2 : E2.filter (ew_cl g E k s) = [] := by
    refine ew_filt_none (fun y hy => ?_)
    apply ew_dcF.mpr
    rintro ⟨y1, y2⟩
    obtain ⟨yk, yt, yv⟩ := y
    dsimp only at y1 y2
    subst y1
    have m2 : ew_M E2 yk yt := ⟨yv, hy⟩
    have m : ew_M E yk yt := (fw_sp_c (fw_sp_s h)).1 yk yt m2
    have m1 := fw_in (fw_sp_c h) hN m y2
    have := h.2 yk yt yt m1 m2
    omega
  have e1 : E1.filter (ew_cl g E k s) = E1.filter (ew_cl g E1 k s) := by
    apply List.filter_congr
    intro y hy
    obtain ⟨yk, yt, yv⟩ := y
    apply ew_dcC
    dsimp only
    constructor
    · rintro ⟨y1, y2⟩
      subst y1
      exact ⟨rfl, (fw_S (fw_sp_c h) hN ⟨yv, hy⟩).mp y2⟩
    · rintro ⟨y1, y2⟩
      subst y1
      exact ⟨rfl, (fw_S (fw_sp_c h) hN ⟨yv, hy⟩).mpr y2⟩
  rw [e1, e2, List.append_nil]
theorem fw_sp_ss (h : fw_sp g E E1 E2) (hg : 0 < g) (hN : ew_M E1 k s) : ew_ss g E (k, s) = ew_ss g E1 (k, s) := by
  unfold ew_ss
  dsimp only
  rw [ew_mx_p (fw_sp_f h hg hN), ew_sm_p (fw_sp_f h hg hN)]
/-- the sessions of X are the panes Rt -/
def fw_SL (g : Nat) (X : List ew_E) (Rt : List ew_P) : Prop := (∀ k s, ew_O g (ew_M X) k s → ew_ss g X (k, s) ∈ Rt) ∧ (∀ r, r ∈ Rt → ew_O g (ew_M X) r.1 r.2.1 ∧ r = ew_ss g X (r.1, r.2.1)) ∧ Rt.Pairwise (fun a b => ew_pk a ≠ ew_pk b)
theorem fw_SL_a (hg : 0 < g) {X1 X2 : List ew_E} {R1 R2 : List ew_P} (hx : ∀ k a b, ew_M X1 k a → ew_M X2 k b → a + g ≤ b ∨ b + g ≤ a) (h1 : fw_SL g X1 R1) (h2 : fw_SL g X2 R2) : fw_SL g (X1 ++ X2) (R1 ++ R2) := by
  have sp : fw_sp g (X1 ++ X2) X1 X2 := ⟨List.Perm.refl _, hx⟩
  refine ⟨fun k s ho => ?_, fun r hr => ?_, ?_⟩
  · rcases (fw_sp_O sp).mp ho with z | z
    · rw [fw_sp_ss sp hg z.1]
      exact List.mem_append.mpr (Or.inl (h1.1 k s z))
    · rw [fw_sp_ss (fw_sp_s sp) hg z.1]
      exact List.mem_append.mpr (Or.inr (h2.1 k s z))
  · rcases List.mem_append.mp hr with z | z
    · obtain ⟨a1, a2⟩ := h1.2.1 r z
      refine ⟨(fw_sp_O sp).mpr (Or.inl a1), ?_⟩
      rw [fw_sp_ss sp hg a1.1]
      exact a2
    · obtain ⟨a1, a2⟩ := h2.2.1 r z
      refine ⟨(fw_sp_O sp).mpr (Or.inr a1), ?_⟩
      rw [fw_sp_ss (fw_sp_s sp) hg a1.1]
      exact a2
  · refine List.pairwise_append.mpr ⟨h1.2.2, h2.2.2, fun a ha b hb z => ?_⟩
    obtain ⟨a1, _⟩ := h1.2.1 a ha
    obtain ⟨b1, _⟩ := h2.2.1 b hb
    have z1 : a.1 = b.1 := show (ew_pk a).1 = (ew_pk b).1 from congrArg Prod.fst z
    have z2 : a.2.1 = b.2.1 := show (ew_pk a).2 = (ew_pk b).2 from congrArg Prod.snd z
    have m1 := a1.1
    have m2 := b1.1
    rw [z1, z2] at m1
    have := hx _ _ _ m1 m2
    omega
theorem fw_SL_p {X1 X2 : List ew_E} {Rt : List ew_P} (h : X1.Perm X2) (s : fw_SL g X1 Rt) : fw_SL g X2 Rt := by
  unfold fw_SL at s ⊢
  rw [← ew_Mp h, ← ew_ss_p h]
  exact s
/-- a pane can't belong to two sessions -/
theorem fw_dis {k s k' s' : Nat} {p : ew_P} (ho : ew_O g (ew_M E) k s) (ho' : ew_O g (ew_M E) k' s') (lt : p.2.1 < p.2.2.1) (h : ew_bl (ew_ss g E (k, s)) p) (h' : ew_bl (ew_ss g E (k', s')) p) : k = k' ∧ s = s' := by
  have key : ∀ {k s s'}, ew_O g (ew_M E) k s → ew_O g (ew_M E) k s' → ew_bl (ew_ss g E (k, s)) p → ew_bl (ew_ss g E (k, s')) p → ¬ s < s' := by
    intro k s s' ho ho' h h' l
    obtain ⟨b, mb, sb, he, _, _⟩ := ew_ss_e ho
    have h1 := h.2.2
    have h2 : s' ≤ p.2.1 := h'.2.1
    rw [he] at h1
    by_cases c : s' ≤ b
    · have := (sb s' ho').mpr c
      omega
    · have := ho'.2 b mb (by omega)
      omega
  have hk : k = k' := h.1.symm.trans h'.1
  subst hk
  have a1 := key ho ho' h h'
  have a2 := key ho' ho h' h
  exact ⟨rfl, by omega⟩
end
