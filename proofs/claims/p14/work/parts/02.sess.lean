/-! sessions, without any machine: openers, same session, blocks of a sorted sequence -/
section
noncomputable def ew_dc (p : Prop) : Bool := @decide p (Classical.propDecidable p)
theorem ew_dcI {p : Prop} : ew_dc p = true ↔ p := @decide_eq_true_iff p (Classical.propDecidable p)
theorem ew_dcF {p : Prop} : ew_dc p = false ↔ ¬ p := by
  rw [← Bool.not_eq_true, ew_dcI]
theorem ew_dcC {p q : Prop} (h : p ↔ q) : ew_dc p = ew_dc q := by rw [propext h]
/-- an event of key k at time t opens a session -/
def ew_O (g : Nat) (M : Nat → Nat → Prop) (k t : Nat) : Prop := M k t ∧ ∀ t', M k t' → t' < t → t' + g ≤ t
/-- times a and b of key k are in one session: no opener between them -/
def ew_S (g : Nat) (M : Nat → Nat → Prop) (k a b : Nat) : Prop := ∀ o, ew_O g M k o → (o ≤ a ↔ o ≤ b)
variable {g k a b c o t n i j q : Nat} {M M' : Nat → Nat → Prop}
theorem ew_Sr : ew_S g M k a a := fun _ _ => Iff.rfl
theorem ew_Ss (h : ew_S g M k a b) : ew_S g M k b a := fun o ho => (h o ho).symm
theorem ew_St (h : ew_S g M k a b) (h' : ew_S g M k b c) : ew_S g M k a c := fun o ho => (h o ho).trans (h' o ho)
theorem ew_lk (ha : M k a) (h1 : a ≤ b) (h2 : b < a + g) : ew_S g M k a b := by
  intro o ho
  refine ⟨fun h => Nat.le_trans h h1, fun h => ?_⟩
  refine Nat.not_lt.mp fun c => ?_
  have := ho.2 a ha c
  omega
theorem ew_O1 (h : ew_O g M k a) (h' : ew_O g M k b) (s : ew_S g M k a b) : a = b := by
  have h1 := (s a h).mp (Nat.le_refl _)
  have h2 := (s b h').mpr (Nat.le_refl _)
  omega
theorem ew_lo (ho : ew_O g M k o) (s : ew_S g M k o t) : o ≤ t := (s o ho).mp (Nat.le_refl _)
theorem ew_nO (hM : M k t) (h : ¬ ew_O g M k t) : ∃ t', M k t' ∧ t' < t ∧ t < t' + g := by
  refine Classical.byContradiction fun c => h ⟨hM, fun t' m l => ?_⟩
  refine Classical.byContradiction fun d => c ⟨t', m, l, ?_⟩
  omega
theorem ew_dn (C : Nat → Prop) (hC : ∀ a b, M k a → M k b → a ≤ b → b < a + g → (C a ↔ C b)) : ∀ t, M k t → ∃ o, ew_O g M k o ∧ ew_S g M k o t ∧ (C o ↔ C t) := by
  intro t
  induction t using Nat.strongRecOn with
  | ind t ih =>
    intro hM
    by_cases h : ew_O g M k t
    · exact ⟨t, h, ew_Sr, Iff.rfl⟩
    · obtain ⟨t', m, l, l2⟩ := ew_nO hM h
      obtain ⟨o, h1, h3, h4⟩ := ih t' l m
      exact ⟨o, h1, ew_St h3 (ew_lk m (Nat.le_of_lt l) l2), h4.trans (hC t' t m hM (Nat.le_of_lt l) l2)⟩
theorem ew_ex (hM : M k t) : ∃ o, ew_O g M k o ∧ ew_S g M k o t := by
  obtain ⟨o, h1, h3, _⟩ := ew_dn (g := g) (fun _ => True) (fun _ _ _ _ _ _ => Iff.rfl) t hM
  exact ⟨o, h1, h3⟩
theorem ew_cls (C : Nat → Prop) (hC : ∀ a b, M k a → M k b → a ≤ b → b < a + g → (C a ↔ C b)) (ha : M k a) (hb : M k b) (s : ew_S g M k a b) : C a ↔ C b := by
  obtain ⟨o, h1, h3, h4⟩ := ew_dn C hC a ha
  obtain ⟨o', h1', h3', h4'⟩ := ew_dn C hC b hb
  have e : o = o' := ew_O1 h1 h1' (ew_St h3 (ew_St s (ew_Ss h3')))
  subst e
  exact h4.symm.trans h4'
theorem ew_mono1 (sub : ∀ t, M k t → M' k t) (hb : M k b) (s : ew_S g M k a b) (ho : ew_O g M' k o) (h : o ≤ b) : o ≤ a := by
  obtain ⟨y, ⟨m, l⟩, mn⟩ := pk_least (fun y => M k y ∧ o ≤ y) ⟨b, hb, h⟩
  refine Classical.byContradiction fun c => ?_
  have hyb : y ≤ b := Nat.not_lt.mp fun q => mn b q ⟨hb, h⟩
  have hn : ¬ ew_O g M k y := fun q => c (Nat.le_trans l ((s y q).mpr hyb))
  obtain ⟨z, mz, l1, l2⟩ := ew_nO m hn
  have hz : z < o := Nat.not_le.mp fun q => mn z l1 ⟨mz, q⟩
  have := ho.2 z (sub z mz) hz
  omega
/-- more events: what was one session stays one -/
theorem ew_mono (sub : ∀ t, M k t → M' k t) (ha : M k a) (hb : M k b) (s : ew_S g M k a b) : ew_S g M' k a b :=
  fun _ ho => ⟨ew_mono1 sub ha (ew_Ss s) ho, ew_mono1 sub hb s ho⟩
theorem ew_restr (cl : ∀ t t', M' k t → M k t' → t' < t → t < t' + g → M' k t') (sub : ∀ t, M' k t → M k t) (ho : ew_O g M' k o) : ew_O g M k o := by
  refine ⟨sub o ho.1, fun t' m l => Nat.not_lt.mp fun q => ?_⟩
  have := ho.2 t' (cl o t' ho.1 m l q) l
  omega
/-- whole sessions taken away: what was one session stays one -/
theorem ew_restrS (cl : ∀ t t', M' k t → M k t' → t' < t → t < t' + g → M' k t') (sub : ∀ t, M' k t → M k t) (s : ew_S g M k a b) : ew_S g M' k a b :=
  fun o ho => s o (ew_restr cl sub ho)
end
section
/-- key, time, value -/
abbrev ew_E : Type := Nat × Nat × Int32
/-- key, start, end, value -/
abbrev ew_P : Type := Nat × Nat × Nat × Int32
def ew_M (E : List ew_E) (k t : Nat) : Prop := ∃ v, (k, t, v) ∈ E
theorem ew_Mp {E E' : List ew_E} (h : E.Perm E') : ew_M E = ew_M E' :=
  funext fun k => funext fun t => propext ⟨fun ⟨v, m⟩ => ⟨v, h.mem_iff.mp m⟩, fun ⟨v, m⟩ => ⟨v, h.mem_iff.mpr m⟩⟩
noncomputable def ew_cl (g : Nat) (E : List ew_E) (k s : Nat) (x : ew_E) : Bool := ew_dc (x.1 = k ∧ ew_S g (ew_M E) k s x.2.1)
def ew_sm (l : List ew_E) : Int32 := l.foldr (fun x s => x.2.2 + s) 0
def ew_mx : List ew_E → Nat
  | [] => 0
  | x :: l => if ew_mx l ≤ x.2.1 then x.2.1 else ew_mx l
theorem ew_sm_p {l l' : List ew_E} (h : l.Perm l') : ew_sm l = ew_sm l' :=
  h.foldr_eq' (fun x _ y _ z => by
    show y.2.2 + (x.2.2 + z) = x.2.2 + (y.2.2 + z)
    rw [← Int32.add_assoc, ← Int32.add_assoc, Int32.add_comm y.2.2 x.2.2]) 0
theorem ew_sm_a (l l' : List ew_E) : ew_sm (l ++ l') = ew_sm l + ew_sm l' := by
  induction l with
  | nil => exact (Int32.zero_add _).symm
  | cons x l ih =>
    show x.2.2 + ew_sm (l ++ l') = x.2.2 + ew_sm l + ew_sm l'
    rw [ih, Int32.add_assoc]
theorem ew_mx_le : ∀ (l : List ew_E) (x : ew_E), x ∈ l → x.2.1 ≤ ew_mx l := by
  intro l
  induction l with
  | nil => intro x h; exact absurd h List.not_mem_nil
  | cons y l ih =>
    intro x h
    rw [ew_mx]
    rcases List.mem_cons.mp h with h | h
    · subst h
      split <;> omega
    · have := ih x h
      split <;> omega
theorem ew_mx_mem : ∀ (l : List ew_E), l ≠ [] → ∃ x, x ∈ l ∧ ew_mx l = x.2.1 := by
  intro l
  induction l with
  | nil => intro h; exact absurd rfl h
  | cons y l ih =>
    intro _
    rw [ew_mx]
    by_cases c : ew_mx l ≤ y.2.1
    · exact ⟨y, List.mem_cons_self, by rw [if_pos c]⟩
    · by_cases d : l = []
      · subst d
        exact absurd (Nat.zero_le _) c
      · obtain ⟨x, hx, he⟩ := ih d
        exact ⟨x, List.mem_cons_of_mem _ hx, by rw [if_neg c, he]⟩
theorem ew_mx_eq {l : List ew_E} {x : ew_E} (hx : x ∈ l) (h : ∀ y, y ∈ l → y.2.1 ≤ x.2.1) : ew_mx l = x.2.1 := by
  obtain ⟨y, hy, e⟩ := ew_mx_mem l (List.ne_nil_of_mem hx)
  have h1 := ew_mx_le l x hx
  have h2 := h y hy
  omega
theorem ew_mx_p {l l' : List ew_E} (h : l.Perm l') : ew_mx l = ew_mx l' := by
  by_cases c : l = []
  · subst c
    rw [List.nil_perm.mp h]
  · obtain ⟨x, hx, e⟩ := ew_mx_mem l c
    rw [e]
    exact (ew_mx_eq (h.mem_iff.mp hx) (fun y hy => e ▸ ew_mx_le l y (h.mem_iff.mpr hy))).symm
noncomputable def ew_ss (g : Nat) (E : List ew_E) (ks : Nat × Nat) : ew_P :=
  (ks.1, ks.2, ew_mx (E.filter (ew_cl g E ks.1 ks.2)) + g, ew_sm (E.filter (ew_cl g E ks.1 ks.2)))
noncomputable def ew_sc (g : Nat) (E : List ew_E) (ks : Nat × Nat) : Nat := (E.filter (ew_cl g E ks.1 ks.2)).length
theorem ew_cl_p {g : Nat} {E E' : List ew_E} (h : E.Perm E') : ew_cl g E = ew_cl g E' := by
  funext k s x
  unfold ew_cl
  rw [ew_Mp h]
theorem ew_ss_p {g : Nat} {E E' : List ew_E} (h : E.Perm E') : ew_ss g E = ew_ss g E' := by
  funext ks
  unfold ew_ss
  rw [ew_cl_p h, ew_mx_p (h.filter (ew_cl g E' ks.1 ks.2)), ew_sm_p (h.filter (ew_cl g E' ks.1 ks.2))]
theorem ew_sc_p {g : Nat} {E E' : List ew_E} (h : E.Perm E') : ew_sc g E = ew_sc g E' := by
  funext ks
  unfold ew_sc
  rw [ew_cl_p h, (h.filter (ew_cl g E' ks.1 ks.2)).length_eq]
theorem ew_cl_S {g k s t : Nat} {E : List ew_E} (h : ew_S g (ew_M E) k s t) : ew_cl g E k s = ew_cl g E k t := by
  funext x
  exact ew_dcC ⟨fun z => ⟨z.1, ew_St (ew_Ss h) z.2⟩, fun z => ⟨z.1, ew_St h z.2⟩⟩
def ew_L {α : Type} (e : Nat → α) (n : Nat) : List α := (List.range n).map e
theorem ew_Ls {α : Type} (e : Nat → α) (n : Nat) : ew_L e (n + 1) = ew_L e n ++ [e n] := by
  unfold ew_L
  rw [List.range_succ, List.map_append]
  rfl
theorem ew_Lm {α : Type} {e : Nat → α} {n : Nat} {x : α} : x ∈ ew_L e n ↔ ∃ i, i < n ∧ e i = x := by
  unfold ew_L
  rw [List.mem_map]
  exact ⟨fun ⟨i, h, h'⟩ => ⟨i, List.mem_range.mp h, h'⟩, fun ⟨i, h, h'⟩ => ⟨i, List.mem_range.mpr h, h'⟩⟩
theorem ew_Lc {α : Type} {e e' : Nat → α} {n : Nat} (h : ∀ i, i < n → e i = e' i) : ew_L e n = ew_L e' n :=
  List.map_congr_left (fun i hi => h i (List.mem_range.mp hi))
theorem ew_Ll {α : Type} (e : Nat → α) (n : Nat) : (ew_L e n).length = n := by
  unfold ew_L
  rw [List.length_map, List.length_range]
theorem ew_Lg {α : Type} {e : Nat → α} {n i : Nat} (h : i < n) : (ew_L e n)[i]? = some (e i) := by
  unfold ew_L
  rw [List.getElem?_map, List.getElem?_range h]
  rfl
/-- a list of n is such a sequence -/
theorem ew_Lx {α : Type} [Inhabited α] (l : List α) : ew_L (fun i => l.getD i default) l.length = l := by
  apply List.ext_getElem?
  intro i
  by_cases h : i < l.length
  · rw [ew_Lg h, List.getElem?_eq_getElem h, List.getD_eq_getElem?_getD, List.getElem?_eq_getElem h]
    rfl
  · rw [List.getElem?_eq_none (by rw [ew_Ll]; omega), List.getElem?_eq_none (by omega)]
end
