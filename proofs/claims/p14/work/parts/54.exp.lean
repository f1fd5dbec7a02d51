/-! expiring and adding, over the picture -/
section
variable {g l W k s : Nat} {E X : List ew_E} {P Rt : List ew_P} {kd : Int32}
theorem fw_fn {α : Type} (p : α → Bool) (l : List α) : l.Perm (l.filter p ++ l.filter (fun x => ! p x)) := (List.filter_append_perm p l).symm
theorem fw_link {E1 E2 : List ew_E} {a b : Nat} (m : ew_M E1 k a) (m' : ew_M E1 k b) (h : ¬ (a + g ≤ b ∨ b + g ≤ a)) : ew_S g (ew_M E1) k a b := by
  by_cases c : a ≤ b
  · exact ew_lk m c (by omega)
  · exact ew_Ss (ew_lk m' (by omega) (by omega))
/-- what expires and what stays aren't linked -/
theorem fw_kp_sp : fw_sp g E (E.filter (ew_kp g E l W)) (E.filter (fun x => ! ew_kp g E l W x)) := by
  refine ⟨fw_fn _ _, fun k a b ma mb => ?_⟩
  refine Classical.byContradiction fun c => ?_
  obtain ⟨v, h⟩ := ma
  obtain ⟨v', h'⟩ := mb
  obtain ⟨h1, h2⟩ := List.mem_filter.mp h
  obtain ⟨h1', h2'⟩ := List.mem_filter.mp h'
  have s := fw_link (E1 := E) (E2 := E) ⟨v, h1⟩ ⟨v', h1'⟩ c
  have e := ew_kp_S (g := g) (l := l) (W := W) (v := v) (v' := v') ⟨v, h1⟩ ⟨v', h1'⟩ s
  rw [← e, h2] at h2'
  cases h2'
theorem fw_kp_O (ho : ew_O g (ew_M E) k s) {v : Int32} : ew_kp g E l W (k, s, v) = true ↔ ¬ (ew_ss g E (k, s)).2.2.1 + l ≤ W := by
  unfold ew_kp
  rw [ew_dcI]
  dsimp only
  rw [ew_st_e ho.1 ho ew_Sr]
theorem fw_Mv : ew_M (E.filter (fun x => ! ew_kp g E l W x)) k s ↔ ew_M E k s ∧ ew_kp g E l W (k, s, 0) = false := by
  constructor
  · rintro ⟨v, m⟩
    obtain ⟨m1, m2⟩ := List.mem_filter.mp m
    refine ⟨⟨v, m1⟩, ?_⟩
    have : ew_kp g E l W (k, s, v) = false := by
      rw [← Bool.not_eq_true']
      exact m2
    exact this
  · rintro ⟨⟨v, m⟩, h⟩
    refine ⟨v, List.mem_filter.mpr ⟨m, ?_⟩⟩
    have : ew_kp g E l W (k, s, v) = false := h
    rw [this]
    rfl
theorem fw_exp (hb : fw_bd g E) (h : fw_X g l W E X P Rt) : fw_X g l W (E.filter (ew_kp g E l W)) (X ++ E.filter (fun x => ! ew_kp g E l W x)) (P.filter (ew_pp g E l W)) (Rt ++ P.filter (fun p => ! ew_pp g E l W p)) := by
  have hg := hb.1
  obtain ⟨⟨hG, hJ⟩, h2, h3, h4, h5⟩ := h
  have sp : fw_sp g E (E.filter (ew_kp g E l W)) (E.filter (fun x => ! ew_kp g E l W x)) := fw_kp_sp
  have cl := fw_sp_c sp
  refine ⟨⟨ew_exp_G hG, fun p hp => ?_⟩, fun ks ho he => ?_, fun k a b ma mb => ?_, fun k b m => ?_, fw_SL_a hg (fun k a b ma mb => ?_) h5 ?_⟩
  · obtain ⟨p1, p2⟩ := List.mem_filter.mp hp
    have p3 := ew_dcI.mp p2
    obtain ⟨ma, b, mb, sab, le, he⟩ := hJ p p1
    have hk : ew_kp g E l W (p.1, p.2.1, 0) = true := by
      apply ew_dcI.mpr
      dsimp only
      intro c
      obtain ⟨o1, o2⟩ := ew_st_s (g := g) ma
      obtain ⟨b0, m0, s0, e0, l0, x0⟩ := ew_ss_e o1
      refine p3 (p.1, ew_st g (ew_M E) p.1 p.2.1) o1 c ⟨rfl, ew_lo o1 o2, ?_⟩
      rw [e0]
      have := x0 b mb (ew_St o2 sab)
      omega
    have hk2 : ew_kp g E l W (p.1, b, 0) = true := by
      rw [← ew_kp_S (v := 0) ma mb sab]
      exact hk
    have ma' : ew_M (E.filter (ew_kp g E l W)) p.1 p.2.1 := ew_kp_M.mpr ⟨ma, hk⟩
    have mb' : ew_M (E.filter (ew_kp g E l W)) p.1 b := ew_kp_M.mpr ⟨mb, hk2⟩
    exact ⟨ma', b, mb', (fw_S cl ma' mb').mp sab, le, he⟩
  · obtain ⟨ho', hm⟩ := (fw_O cl).mp ho
    have es : ew_ss g E ks = ew_ss g (E.filter (ew_kp g E l W)) ks := fw_sp_ss (k := ks.1) (s := ks.2) sp hg hm
    rw [← es] at he
    have hs := h2 ks ho' he
    unfold fw_sy at hs ⊢
    rw [← es]
    have hk := (fw_kp_O (v := 0) ho').mp ((ew_kp_M (v := 0)).mp hm).2
    have hpp : ew_pp g E l W (ew_ss g E ks) = true := by
      apply ew_dcI.mpr
      intro ks' o' c z
      have := fw_dis (k := ks.1) (s := ks.2) (k' := ks'.1) (s' := ks'.2) ho' o' (ew_pi_new (k := ks.1) (s := ks.2) hg ho').1 (fw_bl_r _) z
      have e2 : ks = ks' := Prod.ext this.1 this.2
      rw [← e2] at c
      exact hk c
    have e3 : ew_B (ew_ss g E ks) (P.filter (ew_pp g E l W)) = (ew_B (ew_ss g E ks) P).filter (ew_pp g E l W) := by
      unfold ew_B
      rw [List.filter_filter, List.filter_filter]
      congr 1
      funext p
      exact Bool.and_comm _ _
    rw [e3, hs, List.filter_cons_of_pos hpp]
    rfl
  · rcases fw_Ma.mp mb with z | z
    · exact h3 k a b (cl.1 k a ma) z
    · exact sp.2 k a b ma z
  · rcases fw_Ma.mp m with z | z
    · exact h4 k b z
    · obtain ⟨z1, z2⟩ := fw_Mv.mp z
      have z3 := Classical.byContradiction fun c => (ew_dcF.mp z2) c
      dsimp only at z3
      obtain ⟨o1, o2⟩ := ew_st_s (g := g) z1
      obtain ⟨b0, m0, s0, e0, l0, x0⟩ := ew_ss_e o1
      rw [e0] at z3
      have := x0 b z1 o2
      omega
  · exact (h3 k b a ((fw_sp_c (fw_sp_s sp)).1 k b mb) ma).symm
  · have cl2 := fw_sp_c (fw_sp_s sp)
    have key : ∀ k s, ew_O g (ew_M E) k s → (ew_ss g E (k, s)).2.2.1 + l ≤ W → ew_O g (ew_M (E.filter (fun x => ! ew_kp g E l W x))) k s ∧ ew_ss g E (k, s) = ew_ss g (E.filter (fun x => ! ew_kp g E l W x)) (k, s) ∧ ew_B (ew_ss g E (k, s)) P = [ew_ss g E (k, s)] := by
      intro k s ho he
      have hm : ew_M (E.filter (fun x => ! ew_kp g E l W x)) k s := by
        refine fw_Mv.mpr ⟨ho.1, ?_⟩
        rw [← Bool.not_eq_true]
        exact fun z => (fw_kp_O ho).mp z he
      exact ⟨(fw_O cl2).mpr ⟨ho, hm⟩, fw_sp_ss (fw_sp_s sp) hg hm, h2 (k, s) ho (by omega)⟩
    refine ⟨fun k s ho => ?_, fun r hr => ?_, ?_⟩
    · obtain ⟨ho', hm⟩ := (fw_O cl2).mp ho
      have he : (ew_ss g E (k, s)).2.2.1 + l ≤ W := Classical.byContradiction fun c => by
        have := (fw_kp_O (v := 0) ho').mpr c
        rw [(fw_Mv.mp hm).2] at this
        cases this
      obtain ⟨_, a2, a3⟩ := key k s ho' he
      rw [← a2]
      have m1 : ew_ss g E (k, s) ∈ ew_B (ew_ss g E (k, s)) P := by
        rw [a3]
        exact List.mem_cons_self
      refine List.mem_filter.mpr ⟨(ew_B_m.mp m1).1, ?_⟩
      have : ew_pp g E l W (ew_ss g E (k, s)) = false := ew_dcF.mpr (fun z => z (k, s) ho' he (fw_bl_r _))
      rw [this]
      rfl
    · obtain ⟨r1, r2⟩ := List.mem_filter.mp hr
      have r3 : ¬ ew_pp g E l W r = true := fun z => by
        rw [z] at r2
        cases r2
      have r4 : ∃ ks : Nat × Nat, ew_O g (ew_M E) ks.1 ks.2 ∧ (ew_ss g E ks).2.2.1 + l ≤ W ∧ ew_bl (ew_ss g E ks) r := by
        refine Classical.byContradiction fun c => r3 (ew_dcI.mpr (fun ks o1 o2 o3 => c ⟨ks, o1, o2, o3⟩))
      obtain ⟨ks, o1, o2, o3⟩ := r4
      obtain ⟨a1, a2, a3⟩ := key ks.1 ks.2 o1 o2
      have m1 : r ∈ ew_B (ew_ss g E (ks.1, ks.2)) P := ew_B_m.mpr ⟨r1, o3⟩
      rw [a3] at m1
      have e1 : r = ew_ss g E (ks.1, ks.2) := List.mem_singleton.mp m1
      have e2 : r.1 = ks.1 := by rw [e1]; rfl
      have e3 : r.2.1 = ks.2 := by rw [e1]; rfl
      rw [e2, e3]
      exact ⟨a1, e1.trans a2⟩
    · refine List.Pairwise.filter _ (List.Pairwise.imp ?_ hG.1)
      intro a b hab z
      unfold ew_pl at hab
      rw [z] at hab
      exact ew_lt_as hab hab
theorem fw_J_exp {R : ew_R} {len : Nat} (p : ew_P → Bool) (h : fw_J P Rt R len) : fw_J (P.filter p) (Rt ++ P.filter (fun x => ! p x)) R len := by
  obtain ⟨Lg, h1, h2, h3, h4⟩ := h
  refine ⟨Lg, h1, h2, h3, fun f => ?_⟩
  rw [h4 f, fw_s_p (fw_fn p P), fw_s_a, fw_s_a]
  generalize fw_s f (P.filter p) = a
  generalize fw_s f Rt = b
  generalize fw_s f (P.filter (fun x => ! p x)) = d
  grind
theorem fw_K_add {E' : List ew_E} (sub : ∀ y, y ∈ E → y ∈ E') (h : fw_K g E P) : fw_K g E' P := by
  have subM : ∀ k t, ew_M E k t → ew_M E' k t := fun k t ⟨v, m⟩ => ⟨v, sub _ m⟩
  refine ⟨ew_add_G sub h.1, fun p hp => ?_⟩
  obtain ⟨ma, b, mb, sab, le, he⟩ := h.2 p hp
  exact ⟨subM _ _ ma, b, subM _ _ mb, ew_mono (subM _) ma mb sab, le, he⟩
theorem fw_add {E' : List ew_E} {x : ew_E} {R : ew_R} (hb : fw_bd g E') (hE : E'.Perm (x :: E)) (hW : W ≤ x.2.1 + l) (h : fw_X g l W E X P Rt) : fw_X g l W E' X (ew_fs kd (fun z => ew_dc (z ≤ W)) g E' (P, R) (x.1, ew_st g (ew_M E') x.1 x.2.1)).1 Rt := by
  have hg := hb.1
  obtain ⟨⟨hG, hJ⟩, h2, h3, h4, h5⟩ := h
  obtain ⟨xk, xt, xv⟩ := x
  dsimp only at hW ⊢
  have mx : ew_M E' xk xt := ⟨xv, hE.mem_iff.mpr List.mem_cons_self⟩
  obtain ⟨o1, o2⟩ := ew_st_s (g := g) mx
  have sub : ∀ y, y ∈ E → y ∈ E' := fun y hy => hE.mem_iff.mpr (List.mem_cons_of_mem _ hy)
  have subM : ∀ k t, ew_M E k t → ew_M E' k t := fun k t ⟨v, m⟩ => ⟨v, sub _ m⟩
  have hK' : fw_K g E' P := by
    refine ⟨ew_add_G sub hG, fun p hp => ?_⟩
    obtain ⟨ma, b, mb, sab, le, he⟩ := hJ p hp
    exact ⟨subM _ _ ma, b, subM _ _ mb, ew_mono (subM _) ma mb sab, le, he⟩
  have cI : ∀ k t v, ew_cl g E' xk xt (k, t, v) = true ↔ k = xk ∧ ew_S g (ew_M E') xk xt t := fun k t v => ew_dcI
  have un : ∀ k a b, ew_M (E.filter (fun y => ! ew_cl g E' xk xt y)) k a → ew_M E' k b → (k = xk ∧ ew_S g (ew_M E') xk xt b) → a + g ≤ b ∨ b + g ≤ a := by
    intro k a b ⟨v, m⟩ mb hc
    refine Classical.byContradiction fun c => ?_
    obtain ⟨m1, m2⟩ := List.mem_filter.mp m
    have s := fw_link (E1 := E') (E2 := E') (subM k a ⟨v, m1⟩) mb c
    obtain ⟨c1, c2⟩ := hc
    have : ew_cl g E' xk xt (k, a, v) = true := (cI k a v).mpr ⟨c1, ew_St c2 (by rw [← c1]; exact ew_Ss s)⟩
    rw [this] at m2
    cases m2
  have inC : ∀ k b, ew_M (E.filter (ew_cl g E' xk xt)) k b → ew_M E' k b ∧ (k = xk ∧ ew_S g (ew_M E') xk xt b) := by
    intro k b ⟨v, m⟩
    obtain ⟨m1, m2⟩ := List.mem_filter.mp m
    exact ⟨subM k b ⟨v, m1⟩, (cI k b v).mp m2⟩
  have sp : fw_sp g E (E.filter (fun y => ! ew_cl g E' xk xt y)) (E.filter (ew_cl g E' xk xt)) :=
    ⟨(fw_fn (ew_cl g E' xk xt) E).trans List.perm_append_comm, fun k a b ma mb => un k a b ma (inC k b mb).1 (inC k b mb).2⟩
  have sp' : fw_sp g E' (E.filter (fun y => ! ew_cl g E' xk xt y)) ((xk, xt, xv) :: E.filter (ew_cl g E' xk xt)) := by
    refine ⟨?_, fun k a b ma mb => ?_⟩
    · refine hE.trans (((fw_fn (ew_cl g E' xk xt) E).cons _).trans ?_)
      exact (List.perm_append_comm (l₁ := (xk, xt, xv) :: E.filter (ew_cl g E' xk xt)) (l₂ := E.filter (fun y => ! ew_cl g E' xk xt y)))
    · obtain ⟨v, m⟩ := mb
      rcases List.mem_cons.mp m with z | z
      · have z1 : k = xk := congrArg Prod.fst z
        have z2 : b = xt := congrArg (fun y : ew_E => y.2.1) z
        subst z1 z2
        exact un _ a _ ma mx ⟨rfl, ew_Sr⟩
      · exact un k a b ma (inC k b ⟨v, z⟩).1 (inC k b ⟨v, z⟩).2
  refine ⟨fw_fs_K (st := (P, R)) hg o1 hK', fun ks ho he => ?_, fun k a b ma mb => ?_, h4, h5⟩
  · refine fw_fs_sy (st := (P, R)) hg hb.2.2.1 hK' ho o1 ?_
    by_cases c : ks = (xk, ew_st g (ew_M E') xk xt)
    · exact Or.inr ⟨c, ew_dcI.mpr he⟩
    · refine Or.inl ?_
      rcases (fw_sp_O sp').mp ho with z | z
      · have e1 : ew_ss g E' ks = ew_ss g (E.filter (fun y => ! ew_cl g E' xk xt y)) ks := fw_sp_ss (k := ks.1) (s := ks.2) sp' hg z.1
        have e2 : ew_ss g E ks = ew_ss g (E.filter (fun y => ! ew_cl g E' xk xt y)) ks := fw_sp_ss (k := ks.1) (s := ks.2) sp hg z.1
        rw [e1, ← e2] at he
        have := h2 ks ((fw_sp_O sp).mpr (Or.inl z)) he
        unfold fw_sy at this ⊢
        rw [e1, ← e2]
        exact this
      · exfalso
        obtain ⟨v, m⟩ := z.1
        have hs : ks.1 = xk ∧ ew_S g (ew_M E') xk xt ks.2 := by
          rcases List.mem_cons.mp m with y | y
          · have y1 : ks.1 = xk := congrArg Prod.fst y
            have y2 : ks.2 = xt := congrArg (fun w : ew_E => w.2.1) y
            rw [y2]
            exact ⟨y1, ew_Sr⟩
          · exact (inC ks.1 ks.2 ⟨v, y⟩).2
        obtain ⟨s1, s2⟩ := hs
        have ho2 := ho
        rw [s1] at ho2
        exact c (Prod.ext s1 (ew_O1 ho2 o1 (ew_St (ew_Ss s2) (ew_Ss o2))))
  · obtain ⟨v, m⟩ := ma
    rcases List.mem_cons.mp (hE.mem_iff.mp m) with z | z
    · have z2 : a = xt := congrArg (fun y : ew_E => y.2.1) z
      have := h4 k b mb
      omega
    · exact h3 k a b ⟨v, z⟩ mb
theorem fw_X0 (hg : 0 < g) : fw_X g l 0 [] [] [] [] := by
  have no : ∀ k t, ¬ ew_M [] k t := fun k t ⟨_, m⟩ => absurd m List.not_mem_nil
  exact ⟨⟨⟨List.Pairwise.nil, fun p hp => absurd hp List.not_mem_nil, Nat.zero_le _⟩, fun p hp => absurd hp List.not_mem_nil⟩, fun ks ho => absurd ho.1 (no _ _), fun k a b m => absurd m (no _ _), fun k b m => absurd m (no _ _), fun k s ho => absurd ho.1 (no _ _), fun r hr => absurd hr List.not_mem_nil, List.Pairwise.nil⟩
end
