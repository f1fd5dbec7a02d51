/-! firing: what is in sync stays so; the sum of the records -/
section
variable {g k s : Nat} {E : List ew_E} {P : List ew_P} {R : ew_R} {kd : Int32}
def fw_PJ (g : Nat) (M : Nat → Nat → Prop) (p : ew_P) : Prop := M p.1 p.2.1 ∧ ∃ b, M p.1 b ∧ ew_S g M p.1 p.2.1 b ∧ p.2.1 ≤ b ∧ p.2.2.1 = b + g
def fw_K (g : Nat) (E : List ew_E) (P : List ew_P) : Prop := ew_G g E P ∧ ∀ p, p ∈ P → fw_PJ g (ew_M E) p
theorem fw_bl_r (x : ew_P) : ew_bl x x := ⟨rfl, Nat.le_refl _, Nat.le_refl _⟩
theorem fw_PJ_n (ho : ew_O g (ew_M E) k s) : fw_PJ g (ew_M E) (ew_ss g E (k, s)) := by
  obtain ⟨b, mb, sb, he, l, _⟩ := ew_ss_e ho
  exact ⟨ho.1, b, mb, sb, l, he⟩
theorem fw_N_i {x p : ew_P} (h : p ∈ ew_ins x (ew_N x P)) : p = x ∨ p ∈ P := by
  rcases List.mem_cons.mp ((ew_ins_p _ _).mem_iff.mp h) with z | z
  · exact Or.inl z
  · exact Or.inr (ew_N_m.mp z).1
theorem fw_K_fi (hg : 0 < g) (ho : ew_O g (ew_M E) k s) (h : fw_K g E P) : fw_K g E (ew_fi kd (P, R) (ew_ss g E (k, s))).1 := by
  refine ⟨ew_fi_G hg ho h.1, fun p hp => ?_⟩
  by_cases c : ew_B (ew_ss g E (k, s)) P = [ew_ss g E (k, s)]
  · rw [ew_fi_y (st := (P, R)) c] at hp
    exact h.2 p hp
  · rw [ew_fi_n (st := (P, R)) c] at hp
    dsimp only at hp
    split at hp
    · rcases fw_N_i hp with z | z
      · rw [z]
        exact fw_PJ_n ho
      · exact h.2 p z
    · exact h.2 p (ew_N_m.mp hp).1
/-- no more panes than events -/
theorem fw_len (h : fw_K g E P) : P.length ≤ E.length := by
  have n1 : (P.map ew_pk).Nodup := by
    refine List.pairwise_map.mpr (List.Pairwise.imp ?_ h.1.1)
    intro a b hab z
    unfold ew_pl at hab
    rw [z] at hab
    exact ew_lt_as hab hab
  have n2 : P.map ew_pk ⊆ E.map (fun x => (x.1, x.2.1)) := by
    intro y hy
    obtain ⟨p, hp, rfl⟩ := List.mem_map.mp hy
    obtain ⟨v, hv⟩ := (h.2 p hp).1
    exact List.mem_map.mpr ⟨_, hv, rfl⟩
  have := List.Nodup.length_le_of_subset n1 n2
  rw [List.length_map, List.length_map] at this
  exact this
/-- the session ks is in sync -/
def fw_sy (g : Nat) (E : List ew_E) (P : List ew_P) (ks : Nat × Nat) : Prop := ew_B (ew_ss g E ks) P = [ew_ss g E ks]
theorem fw_B1 {x : ew_P} {P Q : List ew_P} (h : P.Perm Q) (e : ew_B x Q = [x]) : ew_B x P = [x] := by
  have h1 : (ew_B x P).Perm (ew_B x Q) := h.filter _
  rw [e] at h1
  exact List.perm_singleton.mp h1
theorem fw_own {x : ew_P} (hl : (ew_N x P).length < 32) : ew_B x (ew_fi kd (P, R) x).1 = [x] := by
  by_cases c : ew_B x P = [x]
  · rw [ew_fi_y (st := (P, R)) c]
    exact c
  · rw [ew_fi_n (st := (P, R)) c]
    dsimp only
    rw [if_pos hl]
    refine fw_B1 (ew_ins_p _ _) ?_
    unfold ew_B
    rw [List.filter_cons_of_pos (p := fun p => ew_dc (ew_bl x p)) (ew_dcI.mpr (fw_bl_r x)), ew_filt_none (fun y hy => ew_dcF.mpr (ew_N_m.mp hy).2)]
theorem fw_oth {k' s' : Nat} (hg : 0 < g) (ho : ew_O g (ew_M E) k s) (ho' : ew_O g (ew_M E) k' s') (hne : ¬ (k = k' ∧ s = s')) (hP : ew_G g E P) (h : ew_B (ew_ss g E (k, s)) P = [ew_ss g E (k, s)]) : ew_B (ew_ss g E (k, s)) (ew_fi kd (P, R) (ew_ss g E (k', s'))).1 = [ew_ss g E (k, s)] := by
  have n1 : ¬ ew_bl (ew_ss g E (k, s)) (ew_ss g E (k', s')) := fun z => hne (fw_dis ho ho' (ew_pi_new hg ho').1 z (fw_bl_r _))
  have n2 : ew_B (ew_ss g E (k, s)) (ew_N (ew_ss g E (k', s')) P) = [ew_ss g E (k, s)] := by
    rw [← h]
    unfold ew_B ew_N
    rw [List.filter_filter]
    apply List.filter_congr
    intro p hp
    rw [Bool.eq_iff_iff, Bool.and_eq_true, ew_dcI, ew_dcI]
    exact ⟨fun z => z.1, fun z => ⟨z, fun z2 => hne (fw_dis ho ho' (hP.2.1 p hp).1 z z2)⟩⟩
  by_cases c : ew_B (ew_ss g E (k', s')) P = [ew_ss g E (k', s')]
  · rw [ew_fi_y (st := (P, R)) c]
    exact h
  · rw [ew_fi_n (st := (P, R)) c]
    dsimp only
    split
    · refine fw_B1 (ew_ins_p _ _) ?_
      rw [← n2]
      unfold ew_B
      rw [List.filter_cons_of_neg (p := fun p => ew_dc (ew_bl (ew_ss g E (k, s)) p)) (fun z => n1 (ew_dcI.mp z))]
    · exact n2
theorem fw_fs_sy {t : Nat → Bool} {ks ks' : Nat × Nat} {st : List ew_P × ew_R} (hg : 0 < g) (hl : E.length < 32) (hK : fw_K g E st.1) (ho : ew_O g (ew_M E) ks.1 ks.2) (ho' : ew_O g (ew_M E) ks'.1 ks'.2) (h : fw_sy g E st.1 ks ∨ (ks = ks' ∧ t (ew_ss g E ks).2.2.1 = true)) : fw_sy g E (ew_fs kd t g E st ks').1 ks := by
  have hN : (ew_N (ew_ss g E ks') st.1).length < 32 := by
    have h1 := fw_len hK
    have h2 : (ew_N (ew_ss g E ks') st.1).length ≤ st.1.length := List.length_filter_le _ _
    omega
  unfold fw_sy
  by_cases c : t (ew_ss g E ks').2.2.1 = true
  · rw [ew_fs_y c]
    by_cases d : ks = ks'
    · subst d
      exact fw_own hN
    · rcases h with h | h
      · exact fw_oth (P := st.1) (R := st.2) (k := ks.1) (s := ks.2) (k' := ks'.1) (s' := ks'.2) hg ho ho' (fun z => d (Prod.ext z.1 z.2)) hK.1 h
      · exact absurd h.1 d
  · rw [ew_fs_n c]
    rcases h with h | h
    · exact h
    · rw [h.1] at h
      exact absurd h.2 c
theorem fw_fs_K {t : Nat → Bool} {ks : Nat × Nat} {st : List ew_P × ew_R} (hg : 0 < g) (ho : ew_O g (ew_M E) ks.1 ks.2) (h : fw_K g E st.1) : fw_K g E (ew_fs kd t g E st ks).1 := by
  unfold ew_fs
  split
  · exact fw_K_fi (P := st.1) (R := st.2) (k := ks.1) (s := ks.2) hg ho h
  · exact h
theorem fw_ff_sy {t : Nat → Bool} (hg : 0 < g) (hl : E.length < 32) {ks : Nat × Nat} (ho : ew_O g (ew_M E) ks.1 ks.2) : ∀ (L : List (Nat × Nat)) (st : List ew_P × ew_R), (∀ x, x ∈ L → ew_O g (ew_M E) x.1 x.2) → fw_K g E st.1 → (fw_sy g E st.1 ks ∨ (ks ∈ L ∧ t (ew_ss g E ks).2.2.1 = true)) → fw_sy g E (L.foldl (ew_fs kd t g E) st).1 ks := by
  intro L
  induction L with
  | nil =>
    intro st _ _ h
    rcases h with h | h
    · exact h
    · exact absurd h.1 List.not_mem_nil
  | cons a L ih =>
    intro st hL hK h
    have ha := hL a List.mem_cons_self
    refine ih _ (fun x hx => hL x (List.mem_cons_of_mem _ hx)) (fw_fs_K hg ha hK) ?_
    rcases h with h | h
    · exact Or.inl (fw_fs_sy hg hl hK ho ha (Or.inl h))
    · rcases List.mem_cons.mp h.1 with z | z
      · exact Or.inl (fw_fs_sy hg hl hK ho ha (Or.inr ⟨z, h.2⟩))
      · exact Or.inr ⟨z, h.2⟩
end
section
def fw_s {α : Type} (f : α → Int64) (l : List α) : Int64 := l.foldr (fun x s => f x + s) 0
variable {α : Type} {f : α → Int64} {l l' : List α}
theorem fw_s_a : fw_s f (l ++ l') = fw_s f l + fw_s f l' := by
  induction l with
  | nil => exact (Int64.zero_add _).symm
  | cons x l ih =>
    show f x + fw_s f (l ++ l') = f x + fw_s f l + fw_s f l'
    rw [ih, Int64.add_assoc]
theorem fw_s_1 {x : α} : fw_s f [x] = f x := Int64.add_zero _
theorem fw_s_c {x : α} : fw_s f (x :: l) = f x + fw_s f l := rfl
theorem fw_s_p (h : l.Perm l') : fw_s f l = fw_s f l' :=
  h.foldr_eq' (fun x _ y _ z => by
    show f y + (f x + z) = f x + (f y + z)
    rw [← Int64.add_assoc, ← Int64.add_assoc, Int64.add_comm (f y) (f x)]) 0
/-- a record's share -/
def fw_g (f : ew_P → Int64) (x : Int32 × ew_P) : Int64 := if x.1 = 4 then - f x.2 else f x.2
theorem fw_s_r {f : ew_P → Int64} (B : List ew_P) : fw_s (fw_g f) (B.map (fun p => ((4 : Int32), p))) = - fw_s f B := by
  induction B with
  | nil =>
    show (0 : Int64) = - 0
    decide
  | cons b B ih =>
    rw [List.map_cons, fw_s_c, fw_s_c, ih]
    show - f b + - fw_s f B = - (f b + fw_s f B)
    grind
def fw_R (Lg : List (Int32 × ew_P)) (R : ew_R) : Prop := Lg.length ≤ 64 ∧ R.2.2.2.2.2 = nI Lg.length ∧ ∀ i x, Lg[i]? = some x → R.1 i = x.1 ∧ R.2.1 i = nI x.2.1 ∧ R.2.2.1 i = nI x.2.2.1 ∧ R.2.2.2.1 i = nI x.2.2.2.1 ∧ R.2.2.2.2.1 i = x.2.2.2.2
theorem fw_R_em {Lg : List (Int32 × ew_P)} {R : ew_R} {kd : Int32} {p : ew_P} (h : fw_R Lg R) (hl : Lg.length < 64) : fw_R (Lg ++ [(kd, p)]) (ew_em R kd (nI p.1) (nI p.2.1) (nI p.2.2.1) p.2.2.2) := by
  obtain ⟨h1, h2, h3⟩ := h
  have e1 : (R.2.2.2.2.2 &&& 63).toNatClampNeg = Lg.length := by
    rw [h2, pk_and _ 6 (by decide), pk_tn (by omega), Nat.mod_eq_of_lt (by omega), nI_clamp (by omega)]
  refine ⟨by rw [List.length_append]; exact hl, ?_, fun i x hx => ?_⟩
  · rw [List.length_append]
    show R.2.2.2.2.2 + 1 = nI (Lg.length + 1)
    rw [h2, nI_1]
  · unfold ew_em
    dsimp only
    rw [e1]
    by_cases c : i = Lg.length
    · rw [c, List.getElem?_append_right (Nat.le_refl _), Nat.sub_self] at hx
      have hx' : (kd, p) = x := Option.some.inj hx
      rw [← hx', c]
      exact ⟨pk_us, pk_us, pk_us, pk_us, pk_us⟩
    · have hi : i < Lg.length := by
        have := (List.getElem?_eq_some_iff.mp hx).1
        rw [List.length_append] at this
        have t : i < Lg.length + 1 := this
        omega
      rw [List.getElem?_append_left hi] at hx
      rw [pk_un c, pk_un c, pk_un c, pk_un c, pk_un c]
      exact h3 i x hx
theorem fw_R_rt : ∀ (B : List ew_P) {Lg : List (Int32 × ew_P)} {R : ew_R}, fw_R Lg R → Lg.length + B.length ≤ 64 → fw_R (Lg ++ B.map (fun p => ((4 : Int32), p))) (B.foldl ew_rt R) := by
  intro B
  induction B with
  | nil =>
    intro Lg R h _
    rw [List.map_nil, List.append_nil]
    exact h
  | cons b B ih =>
    intro Lg R h hl
    rw [List.length_cons] at hl
    have h2 := ih (fw_R_em (kd := 4) (p := b) h (by omega)) (by rw [List.length_append]; show Lg.length + 1 + B.length ≤ 64; omega)
    rw [List.append_assoc] at h2
    exact h2
/-- the records: a log of len records, whose sum is that of the panes P and Rt -/
def fw_J (P Rt : List ew_P) (R : ew_R) (len : Nat) : Prop := ∃ Lg, fw_R Lg R ∧ Lg.length = len ∧ (∀ x, x ∈ Lg → (x.1 = 1 ∨ x.1 = 2 ∨ x.1 = 3 ∨ x.1 = 4) ∧ ew_xb x.2) ∧ ∀ f : ew_P → Int64, fw_s (fw_g f) Lg = fw_s f P + fw_s f Rt
theorem fw_J_fi {P Rt : List ew_P} {R : ew_R} {len : Nat} {kd : Int32} {x : ew_P} (h : fw_J P Rt R len) (hk : kd = 1 ∨ kd = 2 ∨ kd = 3) (hx : ew_xb x) (hP : ∀ p, p ∈ P → ew_xb p) (hl : len + (ew_B x P).length + 1 ≤ 64) (hN : (ew_N x P).length < 32) :
    ∃ len', len ≤ len' ∧ len' ≤ len + (ew_B x P).length + 1 ∧ fw_J (ew_fi kd (P, R) x).1 Rt (ew_fi kd (P, R) x).2 len' := by
  by_cases c : ew_B x P = [x]
  · rw [ew_fi_y (st := (P, R)) c]
    exact ⟨len, Nat.le_refl _, by omega, h⟩
  · obtain ⟨Lg, h1, h2, h3, h4⟩ := h
    rw [ew_fi_n (st := (P, R)) c]
    dsimp only
    rw [if_pos hN]
    have r1 := fw_R_rt (ew_B x P) h1 (by omega)
    have r2 := fw_R_em (kd := kd) (p := x) r1 (by rw [List.length_append, List.length_map]; omega)
    refine ⟨len + (ew_B x P).length + 1, by omega, Nat.le_refl _, _, r2, ?_, fun y hy => ?_, fun f => ?_⟩
    · rw [List.length_append, List.length_append, List.length_map, h2]
      rfl
    · rcases List.mem_append.mp hy with z | z
      · rcases List.mem_append.mp z with z | z
        · exact h3 y z
        · obtain ⟨p, hp, rfl⟩ := List.mem_map.mp z
          exact ⟨Or.inr (Or.inr (Or.inr rfl)), hP p (ew_B_m.mp hp).1⟩
      · rw [List.mem_singleton.mp z]
        refine ⟨?_, hx⟩
        rcases hk with e | e | e
        · exact Or.inl e
        · exact Or.inr (Or.inl e)
        · exact Or.inr (Or.inr (Or.inl e))
    · have hk4 : ¬ kd = 4 := by
        rcases hk with e | e | e <;> rw [e] <;> decide
      have g1 : fw_g f (kd, x) = f x := if_neg hk4
      have g2 : fw_s f P = fw_s f (ew_B x P) + fw_s f (ew_N x P) := by
        rw [← fw_s_a]
        exact fw_s_p (ew_BN x P)
      have g3 : fw_s f (ew_ins x (ew_N x P)) = f x + fw_s f (ew_N x P) := fw_s_p (ew_ins_p _ _)
      rw [fw_s_a, fw_s_a, h4 f, fw_s_r, fw_s_1, g1, g2, g3]
      generalize fw_s f (ew_B x P) = a
      generalize fw_s f (ew_N x P) = b
      generalize fw_s f Rt = d
      generalize f x = y
      grind
end
