section
/-! sessions, without any machine: openers, same session, blocks of a sorted sequence -/
section
noncomputable def ew_dc (p : Prop) : Bool := @decide p (Classical.propDecidable p)
theorem ew_dcI {p : Prop} : ew_dc p = true ↔ p := @decide_eq_true_iff p (Classical.propDecidable p)
theorem ew_dcF {p : Prop} : ew_dc p = false ↔ ¬ p := by
  rw [← Bool.not_eq_true, ew_dcI]
theorem ew_dcC {p q : Prop} (h : p ↔ q) : ew_dc p = ew_dc q := by rw [propext h]
/-- an event of key k at time t opens a session -/
def ew_O (g : Nat) (M : Nat → Nat → Prop) (k t : Nat) : Prop := M k t ∧ ∀ t', M k t' → t' < t → t' + g ≤ t
/-- times a and b of key k are in one session: no opener between them -/
def ew_S (g : Nat) (M : Nat → Nat → Prop) (k a b : Nat) : Prop := ∀ o, ew_O g M k o → (o ≤ a ↔ o ≤ b)
variable {g k a b c o t n i j q : Nat} {M M' : Nat → Nat → Prop}
theorem ew_Sr : ew_S g M k a a := fun _ _ => Iff.rfl
theorem ew_Ss (h : ew_S g M k a b) : ew_S g M k b a := fun o ho => (h o ho).symm
theorem ew_St (h : ew_S g M k a b) (h' : ew_S g M k b c) : ew_S g M k a c := fun o ho => (h o ho).trans (h' o ho)
theorem ew_lk (ha : M k a) (h1 : a ≤ b) (h2 : b < a + g) : ew_S g M k a b := by
  intro o ho
  refine ⟨fun h => Nat.le_trans h h1, fun h => ?_⟩
  refine Nat.not_lt.mp fun c => ?_
  have := ho.2 a ha c
  omega
theorem ew_O1 (h : ew_O g M k a) (h' : ew_O g M k b) (s : ew_S g M k a b) : a = b := by
  have h1 := (s a h).mp (Nat.le_refl _)
  have h2 := (s b h').mpr (Nat.le_refl _)
  omega
theorem ew_lo (ho : ew_O g M k o) (s : ew_S g M k o t) : o ≤ t := (s o ho).mp (Nat.le_refl _)
theorem ew_nO (hM : M k t) (h : ¬ ew_O g M k t) : ∃ t', M k t' ∧ t' < t ∧ t < t' + g := by
  refine Classical.byContradiction fun c => h ⟨hM, fun t' m l => ?_⟩
  refine Classical.byContradiction fun d => c ⟨t', m, l, ?_⟩
  omega
theorem ew_dn (C : Nat → Prop) (hC : ∀ a b, M k a → M k b → a ≤ b → b < a + g → (C a ↔ C b)) : ∀ t, M k t → ∃ o, ew_O g M k o ∧ ew_S g M k o t ∧ (C o ↔ C t) := by
  intro t
  induction t using Nat.strongRecOn with
  | ind t ih =>
    intro hM
    by_cases h : ew_O g M k t
    · exact ⟨t, h, ew_Sr, Iff.rfl⟩
    · obtain ⟨t', m, l, l2⟩ := ew_nO hM h
      obtain ⟨o, h1, h3, h4⟩ := ih t' l m
      exact ⟨o, h1, ew_St h3 (ew_lk m (Nat.le_of_lt l) l2), h4.trans (hC t' t m hM (Nat.le_of_lt l) l2)⟩
theorem ew_ex (hM : M k t) : ∃ o, ew_O g M k o ∧ ew_S g M k o t := by
  obtain ⟨o, h1, h3, _⟩ := ew_dn (g := g) (fun _ => True) (fun _ _ _ _ _ _ => Iff.rfl) t hM
  exact ⟨o, h1, h3⟩
theorem ew_cls (C : Nat → Prop) (hC : ∀ a b, M k a → M k b → a ≤ b → b < a + g → (C a ↔ C b)) (ha : M k a) (hb : M k b) (s : ew_S g M k a b) : C a ↔ C b := by
  obtain ⟨o, h1, h3, h4⟩ := ew_dn C hC a ha
  obtain ⟨o', h1', h3', h4'⟩ := ew_dn C hC b hb
  have e : o = o' := ew_O1 h1 h1' (ew_St h3 (ew_St s (ew_Ss h3')))
  subst e
  exact h4.symm.trans h4'
theorem ew_mono1 (sub : ∀ t, M k t → M' k t) (hb : M k b) (s : ew_S g M k a b) (ho : ew_O g M' k o) (h : o ≤ b) : o ≤ a := by
  obtain ⟨y, ⟨m, l⟩, mn⟩ := pk_least (fun y => M k y ∧ o ≤ y) ⟨b, hb, h⟩
  refine Classical.byContradiction fun c => ?_
  have hyb : y ≤ b := Nat.not_lt.mp fun q => mn b q ⟨hb, h⟩
  have hn : ¬ ew_O g M k y := fun q => c (Nat.le_trans l ((s y q).mpr hyb))
  obtain ⟨z, mz, l1, l2⟩ := ew_nO m hn
  have hz : z < o := Nat.not_le.mp fun q => mn z l1 ⟨mz, q⟩
  have := ho.2 z (sub z mz) hz
  omega
/-- more events: what was one session stays one -/
theorem ew_mono (sub : ∀ t, M k t → M' k t) (ha : M k a) (hb : M k b) (s : ew_S g M k a b) : ew_S g M' k a b :=
  fun _ ho => ⟨ew_mono1 sub ha (ew_Ss s) ho, ew_mono1 sub hb s ho⟩
theorem ew_restr (cl : ∀ t t', M' k t → M k t' → t' < t → t < t' + g → M' k t') (sub : ∀ t, M' k t → M k t) (ho : ew_O g M' k o) : ew_O g M k o := by
  refine ⟨sub o ho.1, fun t' m l => Nat.not_lt.mp fun q => ?_⟩
  have := ho.2 t' (cl o t' ho.1 m l q) l
  omega
/-- whole sessions taken away: what was one session stays one -/
theorem ew_restrS (cl : ∀ t t', M' k t → M k t' → t' < t → t < t' + g → M' k t') (sub : ∀ t, M' k t → M k t) (s : ew_S g M k a b) : ew_S g M' k a b :=
  fun o ho => s o (ew_restr cl sub ho)
end
section
/-- key, time, value -/
abbrev ew_E : Type := Nat × Nat × Int32
/-- key, start, end, value -/
abbrev ew_P : Type := Nat × Nat × Nat × Int32
def ew_M (E : List ew_E) (k t : Nat) : Prop := ∃ v, (k, t, v) ∈ E
theorem ew_Mp {E E' : List ew_E} (h : E.Perm E') : ew_M E = ew_M E' :=
  funext fun k => funext fun t => propext ⟨fun ⟨v, m⟩ => ⟨v, h.mem_iff.mp m⟩, fun ⟨v, m⟩ => ⟨v, h.mem_iff.mpr m⟩⟩
noncomputable def ew_cl (g : Nat) (E : List ew_E) (k s : Nat) (x : ew_E) : Bool := ew_dc (x.1 = k ∧ ew_S g (ew_M E) k s x.2.1)
def ew_sm (l : List ew_E) : Int32 := l.foldr (fun x s => x.2.2 + s) 0
def ew_mx : List ew_E → Nat
  | [] => 0
  | x :: l => if ew_mx l ≤ x.2.1 then x.2.1 else ew_mx l
theorem ew_sm_p {l l' : List ew_E} (h : l.Perm l') : ew_sm l = ew_sm l' :=
  h.foldr_eq' (fun x _ y _ z => by
    show y.2.2 + (x.2.2 + z) = x.2.2 + (y.2.2 + z)
    rw [← Int32.add_assoc, ← Int32.add_assoc, Int32.add_comm y.2.2 x.2.2]) 0
theorem ew_sm_a (l l' : List ew_E) : ew_sm (l ++ l') = ew_sm l + ew_sm l' := by
  induction l with
  | nil => exact (Int32.zero_add _).symm
  | cons x l ih =>
    show x.2.2 + ew_sm (l ++ l') = x.2.2 + ew_sm l + ew_sm l'
    rw [ih, Int32.add_assoc]
theorem ew_mx_le : ∀ (l : List ew_E) (x : ew_E), x ∈ l → x.2.1 ≤ ew_mx l := by
  intro l
  induction l with
  | nil => intro x h; exact absurd h List.not_mem_nil
  | cons y l ih =>
    intro x h
    rw [ew_mx]
    rcases List.mem_cons.mp h with h | h
    · subst h
      split <;> omega
    · have := ih x h
      split <;> omega
theorem ew_mx_mem : ∀ (l : List ew_E), l ≠ [] → ∃ x, x ∈ l ∧ ew_mx l = x.2.1 := by
  intro l
  induction l with
  | nil => intro h; exact absurd rfl h
  | cons y l ih =>
    intro _
    rw [ew_mx]
    by_cases c : ew_mx l ≤ y.2.1
    · exact ⟨y, List.mem_cons_self, by rw [if_pos c]⟩
    · by_cases d : l = []
      · subst d
        exact absurd (Nat.zero_le _) c
      · obtain ⟨x, hx, he⟩ := ih d
        exact ⟨x, List.mem_cons_of_mem _ hx, by rw [if_neg c, he]⟩
theorem ew_mx_eq {l : List ew_E} {x : ew_E} (hx : x ∈ l) (h : ∀ y, y ∈ l → y.2.1 ≤ x.2.1) : ew_mx l = x.2.1 := by
  obtain ⟨y, hy, e⟩ := ew_mx_mem l (List.ne_nil_of_mem hx)
  have h1 := ew_mx_le l x hx
  have h2 := h y hy
  omega
theorem ew_mx_p {l l' : List ew_E} (h : l.Perm l') : ew_mx l = ew_mx l' := by
  by_cases c : l = []
  · subst c
    rw [List.nil_perm.mp h]
  · obtain ⟨x, hx, e⟩ := ew_mx_mem l c
    rw [e]
    exact (ew_mx_eq (h.mem_iff.mp hx) (fun y hy => e ▸ ew_mx_le l y (h.mem_iff.mpr hy))).symm
noncomputable def ew_ss (g : Nat) (E : List ew_E) (ks : Nat × Nat) : ew_P :=
  (ks.1, ks.2, ew_mx (E.filter (ew_cl g E ks.1 ks.2)) + g, ew_sm (E.filter (ew_cl g E ks.1 ks.2)))
noncomputable def ew_sc (g : Nat) (E : List ew_E) (ks : Nat × Nat) : Nat := (E.filter (ew_cl g E ks.1 ks.2)).length
theorem ew_cl_p {g : Nat} {E E' : List ew_E} (h : E.Perm E') : ew_cl g E = ew_cl g E' := by
  funext k s x
  unfold ew_cl
  rw [ew_Mp h]
theorem ew_ss_p {g : Nat} {E E' : List ew_E} (h : E.Perm E') : ew_ss g E = ew_ss g E' := by
  funext ks
  unfold ew_ss
  rw [ew_cl_p h, ew_mx_p (h.filter (ew_cl g E' ks.1 ks.2)), ew_sm_p (h.filter (ew_cl g E' ks.1 ks.2))]
theorem ew_sc_p {g : Nat} {E E' : List ew_E} (h : E.Perm E') : ew_sc g E = ew_sc g E' := by
  funext ks
  unfold ew_sc
  rw [ew_cl_p h, (h.filter (ew_cl g E' ks.1 ks.2)).length_eq]
theorem ew_cl_S {g k s t : Nat} {E : List ew_E} (h : ew_S g (ew_M E) k s t) : ew_cl g E k s = ew_cl g E k t := by
  funext x
  exact ew_dcC ⟨fun z => ⟨z.1, ew_St (ew_Ss h) z.2⟩, fun z => ⟨z.1, ew_St h z.2⟩⟩
def ew_L {α : Type} (e : Nat → α) (n : Nat) : List α := (List.range n).map e
theorem ew_Ls {α : Type} (e : Nat → α) (n : Nat) : ew_L e (n + 1) = ew_L e n ++ [e n] := by
  unfold ew_L
  rw [List.range_succ, List.map_append]
  rfl
theorem ew_Lm {α : Type} {e : Nat → α} {n : Nat} {x : α} : x ∈ ew_L e n ↔ ∃ i, i < n ∧ e i = x := by
  unfold ew_L
  rw [List.mem_map]
  exact ⟨fun ⟨i, h, h'⟩ => ⟨i, List.mem_range.mp h, h'⟩, fun ⟨i, h, h'⟩ => ⟨i, List.mem_range.mpr h, h'⟩⟩
theorem ew_Lc {α : Type} {e e' : Nat → α} {n : Nat} (h : ∀ i, i < n → e i = e' i) : ew_L e n = ew_L e' n :=
  List.map_congr_left (fun i hi => h i (List.mem_range.mp hi))
theorem ew_Ll {α : Type} (e : Nat → α) (n : Nat) : (ew_L e n).length = n := by
  unfold ew_L
  rw [List.length_map, List.length_range]
theorem ew_Lg {α : Type} {e : Nat → α} {n i : Nat} (h : i < n) : (ew_L e n)[i]? = some (e i) := by
  unfold ew_L
  rw [List.getElem?_map, List.getElem?_range h]
  rfl
/-- a list of n is such a sequence -/
theorem ew_Lx {α : Type} [Inhabited α] (l : List α) : ew_L (fun i => l.getD i default) l.length = l := by
  apply List.ext_getElem?
  intro i
  by_cases h : i < l.length
  · rw [ew_Lg h, List.getElem?_eq_getElem h, List.getD_eq_getElem?_getD, List.getElem?_eq_getElem h]
    rfl
  · rw [List.getElem?_eq_none (by rw [ew_Ll]; omega), List.getElem?_eq_none (by omega)]
end
end
section
/-! sorted positions: blocks, sums, counts -/
section
variable {g n i j q : Nat} {e : Nat → ew_E}
theorem ew_ML {k t : Nat} : ew_M (ew_L e n) k t ↔ ∃ i, i < n ∧ (e i).1 = k ∧ (e i).2.1 = t := by
  constructor
  · rintro ⟨v, m⟩
    obtain ⟨i, hi, h⟩ := ew_Lm.mp m
    exact ⟨i, hi, by rw [h], by rw [h]⟩
  · rintro ⟨i, hi, h1, h2⟩
    subst h1 h2
    exact ⟨(e i).2.2, ew_Lm.mpr ⟨i, hi, rfl⟩⟩
theorem ew_iM (h : i < n) : ew_M (ew_L e n) (e i).1 (e i).2.1 := ew_ML.mpr ⟨i, h, rfl, rfl⟩
def ew_srt (e : Nat → ew_E) (n : Nat) : Prop := ∀ i j, i ≤ j → j < n → (e i).1 < (e j).1 ∨ ((e i).1 = (e j).1 ∧ (e i).2.1 ≤ (e j).2.1)
def ew_op (g : Nat) (e : Nat → ew_E) (i : Nat) : Prop := i = 0 ∨ (e i).1 ≠ (e (i - 1)).1 ∨ (e (i - 1)).2.1 + g ≤ (e i).2.1
def ew_blk (g : Nat) (e : Nat → ew_E) (n i q : Nat) : Prop := i < q ∧ q ≤ n ∧ (∀ j, i < j → j < q → ¬ ew_op g e j) ∧ (q < n → ew_op g e q)
theorem ew_opO (hs : ew_srt e n) (hi : i < n) (ho : ew_op g e i) : ew_O g (ew_M (ew_L e n)) (e i).1 (e i).2.1 := by
  refine ⟨ew_iM hi, fun t' m l => ?_⟩
  obtain ⟨j, hj, h1, h2⟩ := ew_ML.mp m
  subst h2
  have hji : j < i := Nat.not_le.mp fun q => by
    have := hs i j q hj
    omega
  have h3 := hs j (i - 1) (by omega) (by omega)
  have h4 := hs (i - 1) i (by omega) hi
  unfold ew_op at ho
  omega
theorem ew_bf (hs : ew_srt e n) (hb : ew_blk g e n i q) : ∀ j, i ≤ j → j < q → (e j).1 = (e i).1 ∧ ew_S g (ew_M (ew_L e n)) (e i).1 (e i).2.1 (e j).2.1 := by
  intro j
  induction j with
  | zero =>
    intro h _
    have : i = 0 := by omega
    subst this
    exact ⟨rfl, ew_Sr⟩
  | succ j ih =>
    intro h1 h2
    by_cases c : i = j + 1
    · subst c
      exact ⟨rfl, ew_Sr⟩
    · obtain ⟨a, b⟩ := ih (by omega) (by omega)
      have hq := hb.2.1
      have hn := hb.2.2.1 (j + 1) (by omega) h2
      have h3 := hs j (j + 1) (by omega) (by omega)
      have hn' : (e (j + 1)).1 = (e j).1 ∧ (e (j + 1)).2.1 < (e j).2.1 + g := by
        unfold ew_op at hn
        rw [Nat.add_sub_cancel] at hn
        omega
      refine ⟨hn'.1.trans a, ew_St b ?_⟩
      have m : ew_M (ew_L e n) (e j).1 (e j).2.1 := ew_iM (by omega)
      rw [a] at m
      exact ew_lk m (by omega) hn'.2
theorem ew_bb (hs : ew_srt e n) (hg : 0 < g) (ho : ew_op g e i) (hb : ew_blk g e n i q) (hj : j < n) (hk : (e j).1 = (e i).1) (s : ew_S g (ew_M (ew_L e n)) (e i).1 (e i).2.1 (e j).2.1) : i ≤ j ∧ j < q := by
  have hiq := hb.1
  have hqn := hb.2.1
  have hi : i < n := by omega
  have O := ew_opO hs hi ho
  have h0 := (s _ O).mp (Nat.le_refl _)
  constructor
  · refine Nat.not_lt.mp fun c => ?_
    have h3 := hs j (i - 1) (by omega) (by omega)
    have h4 := hs (i - 1) i (by omega) hi
    unfold ew_op at ho
    omega
  · refine Nat.not_le.mp fun c => ?_
    have hq : q < n := by omega
    have oq := hb.2.2.2 hq
    have h5 := hs i q (by omega) hq
    have h6 := hs q j c hj
    have kq : (e q).1 = (e i).1 := by omega
    have O2 := ew_opO hs hq oq
    rw [kq] at O2
    have h7 := (s _ O2).mpr (by omega)
    have h8 := hs i (q - 1) (by omega) (by omega)
    have h9 := hs (q - 1) q (by omega) hq
    unfold ew_op at oq
    omega
theorem ew_bx (hi : i < n) : ∃ q, ew_blk g e n i q := by
  obtain ⟨q, ⟨h1, h2⟩, mn⟩ := pk_least (fun q => i < q ∧ (q = n ∨ ew_op g e q)) ⟨n, hi, Or.inl rfl⟩
  have hq : q ≤ n := Nat.not_lt.mp fun c => mn n c ⟨hi, Or.inl rfl⟩
  refine ⟨q, h1, hq, fun j l1 l2 o => mn j l2 ⟨l1, Or.inr o⟩, fun c => ?_⟩
  rcases h2 with h2 | h2
  · omega
  · exact h2
def ew_su (p : Nat → Bool) (v : Nat → Int32) : Nat → Int32
  | 0 => 0
  | m + 1 => if p m = true then ew_su p v m + v m else ew_su p v m
def ew_ct (p : Nat → Bool) : Nat → Nat
  | 0 => 0
  | m + 1 => if p m = true then ew_ct p m + 1 else ew_ct p m
theorem ew_su_L (e : Nat → ew_E) (P : ew_E → Bool) : ∀ m, ew_sm ((ew_L e m).filter P) = ew_su (fun i => P (e i)) (fun i => (e i).2.2) m := by
  intro m
  induction m with
  | zero => rfl
  | succ m ih =>
    rw [ew_Ls, List.filter_append, ew_sm_a, ih, ew_su]
    by_cases h : P (e m) = true
    · rw [if_pos h, List.filter_cons_of_pos h]
      show _ + ((e m).2.2 + 0) = _
      rw [Int32.add_zero]
    · rw [if_neg h, List.filter_cons_of_neg h]
      show _ + (0 : Int32) = _
      rw [Int32.add_zero]
theorem ew_ct_L {α : Type} (e : Nat → α) (P : α → Bool) : ∀ m, ((ew_L e m).filter P).length = ew_ct (fun i => P (e i)) m := by
  intro m
  induction m with
  | zero => rfl
  | succ m ih =>
    rw [ew_Ls, List.filter_append, List.length_append, ih, ew_ct]
    by_cases h : P (e m) = true
    · rw [if_pos h, List.filter_cons_of_pos h]
      rfl
    · rw [if_neg h, List.filter_cons_of_neg h]
      rfl
theorem ew_su_c {p p' : Nat → Bool} {v v' : Nat → Int32} {m : Nat} (h : ∀ i, i < m → p i = p' i ∧ v i = v' i) : ew_su p v m = ew_su p' v' m := by
  induction m with
  | zero => rfl
  | succ m ih =>
    rw [ew_su, ew_su, ih (fun i hi => h i (by omega)), (h m (by omega)).1, (h m (by omega)).2]
theorem ew_ct_c {p p' : Nat → Bool} {m : Nat} (h : ∀ i, i < m → p i = p' i) : ew_ct p m = ew_ct p' m := by
  induction m with
  | zero => rfl
  | succ m ih =>
    rw [ew_ct, ew_ct, ih (fun i hi => h i (by omega)), h m (by omega)]
theorem ew_ct_le (p : Nat → Bool) : ∀ m, ew_ct p m ≤ m := by
  intro m
  induction m with
  | zero => exact Nat.le_refl 0
  | succ m ih =>
    rw [ew_ct]
    split <;> omega
theorem ew_ct_mono {p p' : Nat → Bool} {m : Nat} (h : ∀ i, i < m → p i = true → p' i = true) : ew_ct p m ≤ ew_ct p' m := by
  induction m with
  | zero => exact Nat.le_refl 0
  | succ m ih =>
    have := ih (fun i hi => h i (by omega))
    have h2 := h m (by omega)
    rw [ew_ct, ew_ct]
    by_cases c : p m = true
    · rw [if_pos c, if_pos (h2 c)]
      omega
    · rw [if_neg c]
      split <;> omega
theorem ew_ct_lt {p p' : Nat → Bool} {m x : Nat} (h : ∀ i, i < m → p i = true → p' i = true) (hx : x < m) (hp : ¬ p x = true) (hp' : p' x = true) : ew_ct p m < ew_ct p' m := by
  induction m with
  | zero => omega
  | succ m ih =>
    rw [ew_ct, ew_ct]
    by_cases c : x = m
    · subst c
      have := ew_ct_mono (fun i hi => h i (Nat.lt_succ_of_lt hi))
      rw [if_neg hp, if_pos hp']
      omega
    · have := ih (fun i hi => h i (by omega)) (by omega)
      have h2 := h m (by omega)
      by_cases d : p m = true
      · rw [if_pos d, if_pos (h2 d)]
        omega
      · rw [if_neg d]
        split <;> omega
theorem ew_ct_r (p : Nat → Bool) : ∀ m, ew_ct p m = (List.range m).countP p := by
  intro m
  induction m with
  | zero => rfl
  | succ m ih =>
    rw [ew_ct, List.range_succ, List.countP_append, ih]
    by_cases h : p m = true
    · rw [if_pos h, List.countP_cons_of_pos h]
      rfl
    · rw [if_neg h, List.countP_cons_of_neg h]
      rfl
/-- the positions of a block -/
noncomputable def ew_in (i q : Nat) (j : Nat) : Bool := ew_dc (i ≤ j ∧ j < q)
theorem ew_inI : ew_in i q j = true ↔ i ≤ j ∧ j < q := ew_dcI
theorem ew_su_0 (v : Nat → Int32) (m : Nat) (h : m ≤ i) : ew_su (ew_in i q) v m = 0 := by
  induction m with
  | zero => rfl
  | succ m ih =>
    have hn : ¬ ew_in i q m = true := fun z => by
      have := ew_inI.mp z
      omega
    rw [ew_su, if_neg hn, ih (by omega)]
theorem ew_su_1 (v : Nat → Int32) (d : Nat) : ew_su (ew_in i q) v (q + d) = ew_su (ew_in i q) v q := by
  induction d with
  | zero => rfl
  | succ d ih =>
    have hn : ¬ ew_in i q (q + d) = true := fun z => by
      have := ew_inI.mp z
      omega
    rw [← Nat.add_assoc, ew_su, if_neg hn, ih]
theorem ew_ct_b (m : Nat) : ew_ct (ew_in i q) m = (if m ≤ q then m else q) - i := by
  induction m with
  | zero =>
    show 0 = _
    rw [if_pos (Nat.zero_le _), Nat.zero_sub]
  | succ m ih =>
    rw [ew_ct, ih]
    by_cases h : i ≤ m ∧ m < q
    · rw [if_pos (ew_inI.mpr h), if_pos (show m ≤ q by omega), if_pos (show m + 1 ≤ q by omega)]
      omega
    · rw [if_neg (fun z => h (ew_inI.mp z))]
      by_cases c : m + 1 ≤ q
      · rw [if_pos (show m ≤ q by omega), if_pos c]
        omega
      · rw [if_neg c]
        split <;> omega
theorem ew_clX (hs : ew_srt e n) (hg : 0 < g) (ho : ew_op g e i) (hb : ew_blk g e n i q) (hj : j < n) : ew_cl g (ew_L e n) (e i).1 (e i).2.1 (e j) = ew_in i q j :=
  ew_dcC ⟨fun z => ew_bb hs hg ho hb hj z.1 z.2, fun z => ew_bf hs hb j z.1 z.2⟩
/-- the session that opens at position i, as its block shows it -/
theorem ew_sX (hs : ew_srt e n) (hg : 0 < g) (ho : ew_op g e i) (hb : ew_blk g e n i q) :
    ew_ss g (ew_L e n) ((e i).1, (e i).2.1) = ((e i).1, (e i).2.1, (e (q - 1)).2.1 + g, ew_su (ew_in i q) (fun j => (e j).2.2) q) ∧ ew_sc g (ew_L e n) ((e i).1, (e i).2.1) = q - i := by
  have hiq := hb.1
  have hqn := hb.2.1
  have h1 : ew_mx ((ew_L e n).filter (ew_cl g (ew_L e n) (e i).1 (e i).2.1)) = (e (q - 1)).2.1 := by
    apply ew_mx_eq
    · refine List.mem_filter.mpr ⟨ew_Lm.mpr ⟨q - 1, by omega, rfl⟩, ?_⟩
      rw [ew_clX hs hg ho hb (by omega)]
      exact ew_inI.mpr ⟨by omega, by omega⟩
    · intro y hy
      obtain ⟨hy1, hy2⟩ := List.mem_filter.mp hy
      obtain ⟨j, hj, rfl⟩ := ew_Lm.mp hy1
      rw [ew_clX hs hg ho hb hj] at hy2
      have hy3 := ew_inI.mp hy2
      have k1 := (ew_bf hs hb j hy3.1 hy3.2).1
      have k2 := (ew_bf hs hb (q - 1) (by omega) (by omega)).1
      have := hs j (q - 1) (by omega) (by omega)
      omega
  have h2 : ew_sm ((ew_L e n).filter (ew_cl g (ew_L e n) (e i).1 (e i).2.1)) = ew_su (ew_in i q) (fun j => (e j).2.2) q := by
    rw [ew_su_L, ew_su_c (p' := ew_in i q) (v' := fun j => (e j).2.2) (fun j hj => ⟨ew_clX hs hg ho hb hj, rfl⟩)]
    have := ew_su_1 (i := i) (q := q) (fun j => (e j).2.2) (n - q)
    rw [show q + (n - q) = n by omega] at this
    exact this
  constructor
  · unfold ew_ss
    dsimp only
    rw [h1, h2]
  · unfold ew_sc
    dsimp only
    rw [ew_ct_L, ew_ct_c (p' := ew_in i q) (fun j hj => ew_clX hs hg ho hb hj), ew_ct_b]
    split <;> omega
end
end
section
/-! the order of sessions and of panes: rank is position; labels -/
section
variable {g n i j q r : Nat} {e : Nat → ew_E}
def ew_lt (a b : Nat × Nat) : Prop := a.1 < b.1 ∨ (a.1 = b.1 ∧ a.2 < b.2)
theorem ew_lt_as {a b : Nat × Nat} (h : ew_lt a b) : ¬ ew_lt b a := by
  unfold ew_lt at *
  omega
theorem ew_rk {α : Type} (f : α → α → Prop) (as : ∀ a b, f a b → ¬ f b a) : ∀ (l : List α), l.Pairwise f → ∀ (i : Nat) (x : α), l[i]? = some x → l.countP (fun y => ew_dc (f y x)) = i := by
  intro l
  induction l with
  | nil => intro _ i x h; rw [List.getElem?_nil] at h; cases h
  | cons a l ih =>
    intro hp i x h
    obtain ⟨h1, h2⟩ := List.pairwise_cons.mp hp
    cases i with
    | zero =>
      rw [List.getElem?_cons_zero] at h
      cases h
      apply List.countP_eq_zero.mpr
      intro y hy z
      have z' := ew_dcI.mp z
      rcases List.mem_cons.mp hy with c | c
      · subst c
        exact as y y z' z'
      · exact as _ _ (h1 y c) z'
    | succ i =>
      rw [List.getElem?_cons_succ] at h
      rw [List.countP_cons_of_pos (p := fun y => ew_dc (f y x)) (ew_dcI.mpr (h1 x (List.mem_of_getElem? h))), ih h2 i x h]
/-- key and start of the sessions in order, as the sorted sequence shows them, those that open below n -/
noncomputable def ew_xl (g : Nat) (e : Nat → ew_E) (n : Nat) : List (Nat × Nat) :=
  ((List.range n).filter (fun i => ew_dc (ew_op g e i))).map (fun i => ((e i).1, (e i).2.1))
theorem ew_xl_s (n : Nat) : ew_xl g e (n + 1) = if ew_dc (ew_op g e n) = true then ew_xl g e n ++ [((e n).1, (e n).2.1)] else ew_xl g e n := by
  unfold ew_xl
  rw [List.range_succ, List.filter_append]
  by_cases h : ew_dc (ew_op g e n) = true
  · rw [if_pos h, List.filter_cons_of_pos (p := fun i => ew_dc (ew_op g e i)) h, List.map_append]
    rfl
  · rw [if_neg h, List.filter_cons_of_neg (p := fun i => ew_dc (ew_op g e i)) h, List.map_append]
    exact List.append_nil _
theorem ew_xl_y (h : ew_op g e n) : ew_xl g e (n + 1) = ew_xl g e n ++ [((e n).1, (e n).2.1)] := by
  rw [ew_xl_s, if_pos (ew_dcI.mpr h)]
theorem ew_xl_n (h : ¬ ew_op g e n) : ew_xl g e (n + 1) = ew_xl g e n := by
  rw [ew_xl_s, if_neg (fun z => h (ew_dcI.mp z))]
theorem ew_xl_l (n : Nat) : (ew_xl g e n).length = ew_ct (fun i => ew_dc (ew_op g e i)) n := by
  unfold ew_xl
  rw [List.length_map, ew_ct_r, List.countP_eq_length_filter]
theorem ew_xl_g (h : ew_op g e i) : ∀ d, (ew_xl g e (i + 1 + d))[(ew_xl g e i).length]? = some ((e i).1, (e i).2.1) := by
  intro d
  induction d with
  | zero =>
    rw [Nat.add_zero, ew_xl_y h, List.getElem?_append_right (Nat.le_refl _), Nat.sub_self]
    rfl
  | succ d ih =>
    rw [← Nat.add_assoc, ew_xl_s]
    split
    · rw [List.getElem?_append_left, ih]
      exact (List.getElem?_eq_some_iff.mp ih).1
    · exact ih
theorem ew_xl_p (hs : ew_srt e n) (hg : 0 < g) : (ew_xl g e n).Pairwise ew_lt := by
  unfold ew_xl
  refine List.pairwise_map.mpr ?_
  refine List.Pairwise.imp_of_mem ?_ (List.Pairwise.filter _ List.pairwise_lt_range)
  intro a b ha hb hab
  have ha2 := List.mem_range.mp (List.mem_filter.mp ha).1
  have hb2 := List.mem_range.mp (List.mem_filter.mp hb).1
  have hb3 := ew_dcI.mp (List.mem_filter.mp hb).2
  have h1 := hs a (b - 1) (by omega) (by omega)
  have h2 := hs (b - 1) b (by omega) hb2
  unfold ew_op at hb3
  unfold ew_lt
  dsimp only
  omega
theorem ew_xl_m (hs : ew_srt e n) (hg : 0 < g) {ks : Nat × Nat} : ks ∈ ew_xl g e n ↔ ew_O g (ew_M (ew_L e n)) ks.1 ks.2 := by
  unfold ew_xl
  rw [List.mem_map]
  constructor
  · rintro ⟨i, hi, rfl⟩
    obtain ⟨h1, h2⟩ := List.mem_filter.mp hi
    exact ew_opO hs (List.mem_range.mp h1) (ew_dcI.mp h2)
  · intro h
    obtain ⟨i, ⟨hi, h1, h2⟩, mn⟩ := pk_least (fun i => i < n ∧ (e i).1 = ks.1 ∧ (e i).2.1 = ks.2) (ew_ML.mp h.1)
    refine ⟨i, List.mem_filter.mpr ⟨List.mem_range.mpr hi, ew_dcI.mpr ?_⟩, by show ((e i).1, (e i).2.1) = ks; rw [h1, h2]⟩
    refine Classical.byContradiction fun c => ?_
    unfold ew_op at c
    have h3 := hs (i - 1) i (by omega) hi
    have h4 := mn (i - 1) (by omega)
    have m : ew_M (ew_L e n) (e (i - 1)).1 (e (i - 1)).2.1 := ew_iM (by omega)
    have hk : (e (i - 1)).1 = ks.1 := by omega
    rw [hk] at m
    by_cases d : (e (i - 1)).2.1 < ks.2
    · have := h.2 _ m d
      omega
    · exact h4 ⟨by omega, hk, by omega⟩
/-- the start of the session of key k that time t is in -/
noncomputable def ew_st (g : Nat) (M : Nat → Nat → Prop) (k t : Nat) : Nat := @dite Nat (∃ o, ew_O g M k o ∧ ew_S g M k o t) (Classical.propDecidable _) (fun h => Classical.choose h) (fun _ => 0)
theorem ew_st_s {M : Nat → Nat → Prop} {k t : Nat} (h : M k t) : ew_O g M k (ew_st g M k t) ∧ ew_S g M k (ew_st g M k t) t := by
  have hx : ∃ o, ew_O g M k o ∧ ew_S g M k o t := ew_ex h
  unfold ew_st
  rw [dif_pos hx]
  exact Classical.choose_spec hx
theorem ew_st_e {M : Nat → Nat → Prop} {k t o : Nat} (h : M k t) (ho : ew_O g M k o) (s : ew_S g M k o t) : ew_st g M k t = o :=
  ew_O1 (ew_st_s h).1 ho (ew_St (ew_st_s h).2 (ew_Ss s))
theorem ew_st_S {M : Nat → Nat → Prop} {k t t' : Nat} (h : M k t) (h' : M k t') (s : ew_S g M k t t') : ew_st g M k t = ew_st g M k t' :=
  ew_st_e h (ew_st_s h').1 (ew_St (ew_st_s h').2 (ew_Ss s))
/-- positions i and j hold events of one session -/
def ew_si (g : Nat) (e : Nat → ew_E) (n i j : Nat) : Prop := (e j).1 = (e i).1 ∧ ew_S g (ew_M (ew_L e n)) (e i).1 (e i).2.1 (e j).2.1
theorem ew_si_r : ew_si g e n i i := ⟨rfl, ew_Sr⟩
theorem ew_si_s (h : ew_si g e n i j) : ew_si g e n j i := ⟨h.1.symm, by rw [h.1]; exact ew_Ss h.2⟩
theorem ew_si_t (h : ew_si g e n i j) (h' : ew_si g e n j q) : ew_si g e n i q := ⟨h'.1.trans h.1, ew_St h.2 (by rw [← h.1]; exact h'.2)⟩
/-- lb i is the least position of i's session -/
def ew_lab (g : Nat) (e : Nat → ew_E) (n : Nat) (lb : Nat → Nat) : Prop := ∀ i, i < n → lb i < n ∧ ew_si g e n i (lb i) ∧ ∀ j, j < n → ew_si g e n i j → lb i ≤ j
variable {lb : Nat → Nat}
theorem ew_lab_e (h : ew_lab g e n lb) (hi : i < n) (hj : j < n) (s : ew_si g e n i j) : lb i = lb j := by
  obtain ⟨a1, a2, a3⟩ := h i hi
  obtain ⟨b1, b2, b3⟩ := h j hj
  have := a3 (lb j) b1 (ew_si_t s b2)
  have := b3 (lb i) a1 (ew_si_t (ew_si_s s) a2)
  omega
theorem ew_lab_i (h : ew_lab g e n lb) (hi : i < n) : lb (lb i) = lb i :=
  (ew_lab_e h hi (h i hi).1 (h i hi).2.1).symm
theorem ew_lab_c (h : ew_lab g e n lb) (hr : r < n) (hrr : lb r = r) (hj : j < n) : lb j = r ↔ ew_si g e n r j := by
  constructor
  · intro c
    have := (h j hj).2.1
    rw [c] at this
    exact ew_si_s this
  · intro s
    rw [← ew_lab_e h hr hj s, hrr]
/-- key and start of the session of position i -/
noncomputable def ew_ks (g : Nat) (e : Nat → ew_E) (n i : Nat) : Nat × Nat := ((e i).1, ew_st g (ew_M (ew_L e n)) (e i).1 (e i).2.1)
theorem ew_ks_O (hi : i < n) : ew_O g (ew_M (ew_L e n)) (ew_ks g e n i).1 (ew_ks g e n i).2 := (ew_st_s (ew_iM hi)).1
theorem ew_ks_S (hi : i < n) : ew_S g (ew_M (ew_L e n)) (e i).1 (ew_ks g e n i).2 (e i).2.1 := (ew_st_s (ew_iM hi)).2
theorem ew_ks_i (hi : i < n) (hj : j < n) : ew_ks g e n i = ew_ks g e n j ↔ ew_si g e n i j := by
  constructor
  · intro h
    have h1 : (e i).1 = (e j).1 := show (ew_ks g e n i).1 = (ew_ks g e n j).1 from congrArg Prod.fst h
    have h2 : ew_st g (ew_M (ew_L e n)) (e i).1 (e i).2.1 = ew_st g (ew_M (ew_L e n)) (e j).1 (e j).2.1 := show (ew_ks g e n i).2 = (ew_ks g e n j).2 from congrArg Prod.snd h
    have a := (ew_st_s (g := g) (ew_iM (e := e) hi)).2
    have b := (ew_st_s (g := g) (ew_iM (e := e) hj)).2
    rw [← h2, ← h1] at b
    exact ⟨h1.symm, ew_St (ew_Ss a) b⟩
  · intro s
    have m : ew_M (ew_L e n) (e j).1 (e j).2.1 := ew_iM hj
    have e2 : ew_st g (ew_M (ew_L e n)) (e i).1 (e i).2.1 = ew_st g (ew_M (ew_L e n)) (e i).1 (e j).2.1 := by
      rw [s.1] at m
      exact ew_st_S (ew_iM hi) m s.2
    unfold ew_ks
    rw [e2, s.1]
theorem ew_clY (h : ew_lab g e n lb) (hr : r < n) (hrr : lb r = r) (hj : j < n) : ew_cl g (ew_L e n) (ew_ks g e n r).1 (ew_ks g e n r).2 (e j) = ew_dc (lb j = r) := by
  have h1 : ew_cl g (ew_L e n) (ew_ks g e n r).1 (ew_ks g e n r).2 = ew_cl g (ew_L e n) (e r).1 (e r).2.1 := ew_cl_S (ew_ks_S hr)
  rw [h1]
  exact ew_dcC (ew_lab_c h hr hrr hj).symm
/-- the representatives' sessions, in the order of positions -/
noncomputable def ew_yl (g : Nat) (e : Nat → ew_E) (n : Nat) (lb : Nat → Nat) : List (Nat × Nat) :=
  ((List.range n).filter (fun i => ew_dc (lb i = i))).map (ew_ks g e n)
theorem ew_yl_m (h : ew_lab g e n lb) {ks : Nat × Nat} : ks ∈ ew_yl g e n lb ↔ ew_O g (ew_M (ew_L e n)) ks.1 ks.2 := by
  unfold ew_yl
  rw [List.mem_map]
  constructor
  · rintro ⟨i, hi, rfl⟩
    exact ew_ks_O (List.mem_range.mp (List.mem_filter.mp hi).1)
  · intro ho
    obtain ⟨i, hi, h1, h2⟩ := ew_ML.mp ho.1
    refine ⟨lb i, List.mem_filter.mpr ⟨List.mem_range.mpr (h i hi).1, ew_dcI.mpr (ew_lab_i h hi)⟩, ?_⟩
    rw [← (ew_ks_i hi (h i hi).1).mpr (h i hi).2.1]
    unfold ew_ks
    rw [h1, h2, ew_st_e ho.1 ho ew_Sr]
theorem ew_yl_n (h : ew_lab g e n lb) : (ew_yl g e n lb).Nodup := by
  unfold ew_yl
  refine List.pairwise_map.mpr ?_
  refine List.Pairwise.imp_of_mem ?_ (List.Pairwise.filter _ List.pairwise_lt_range)
  intro a b ha hb hab c
  have ha2 := List.mem_range.mp (List.mem_filter.mp ha).1
  have hb2 := List.mem_range.mp (List.mem_filter.mp hb).1
  have ha3 := ew_dcI.mp (List.mem_filter.mp ha).2
  have hb3 := ew_dcI.mp (List.mem_filter.mp hb).2
  have := ew_lab_e h ha2 hb2 ((ew_ks_i ha2 hb2).mp c)
  omega
theorem ew_xl_n' (hs : ew_srt e n) (hg : 0 < g) : (ew_xl g e n).Nodup := by
  refine List.Pairwise.imp ?_ (ew_xl_p hs hg)
  intro a b h c
  subst c
  exact ew_lt_as h h
/-- the two lists of sessions are one, but for the order; f is X's sequence, e is Y's -/
theorem ew_xy {f : Nat → ew_E} (hp : (ew_L f n).Perm (ew_L e n)) (hs : ew_srt f n) (hg : 0 < g) (h : ew_lab g e n lb) : (ew_yl g e n lb).Perm (ew_xl g f n) := by
  refine (List.perm_ext_iff_of_nodup (ew_yl_n h) (ew_xl_n' hs hg)).mpr ?_
  intro ks
  rw [ew_yl_m h, ew_xl_m hs hg, ew_Mp hp]
/-- the rank of a representative is the place of its session -/
theorem ew_rank {f : Nat → ew_E} (hp : (ew_L f n).Perm (ew_L e n)) (hs : ew_srt f n) (hg : 0 < g) (h : ew_lab g e n lb) (hr : r < n) (hrr : lb r = r) {x : Nat} (hx : (ew_xl g f n)[x]? = some (ew_ks g e n r)) :
    ew_ct (fun q => ew_dc (lb q = q ∧ ew_lt (ew_ks g e n q) (ew_ks g e n r))) n = x := by
  rw [ew_ct_r, ← ew_rk ew_lt (fun _ _ => ew_lt_as) _ (ew_xl_p hs hg) x _ hx, ← (ew_xy hp hs hg h).countP_eq _]
  unfold ew_yl
  rw [List.countP_map, List.countP_filter]
  apply List.countP_congr
  intro q _
  show ew_dc (lb q = q ∧ ew_lt (ew_ks g e n q) (ew_ks g e n r)) = true ↔ (ew_dc (ew_lt (ew_ks g e n q) (ew_ks g e n r)) && ew_dc (lb q = q)) = true
  rw [ew_dcI, Bool.and_eq_true, ew_dcI, ew_dcI]
  exact And.comm
theorem ew_rankx {f : Nat → ew_E} (hp : (ew_L f n).Perm (ew_L e n)) (hs : ew_srt f n) (hg : 0 < g) (h : ew_lab g e n lb) (hr : r < n) (hrr : lb r = r) {x : Nat}
    (hx : ew_ct (fun q => ew_dc (lb q = q ∧ ew_lt (ew_ks g e n q) (ew_ks g e n r))) n = x) : (ew_xl g f n)[x]? = some (ew_ks g e n r) := by
  have m : ew_ks g e n r ∈ ew_xl g f n := (ew_xl_m hs hg).mpr (by rw [ew_Mp hp]; exact ew_ks_O hr)
  obtain ⟨y, hy⟩ := List.mem_iff_getElem?.mp m
  have := ew_rank hp hs hg h hr hrr hy
  rw [← hx, this]
  exact hy
theorem ew_repx {f : Nat → ew_E} (hp : (ew_L f n).Perm (ew_L e n)) (hs : ew_srt f n) (hg : 0 < g) (h : ew_lab g e n lb) {x : Nat} (hx : x < (ew_xl g f n).length) :
    ∃ r, r < n ∧ lb r = r ∧ ew_ct (fun q => ew_dc (lb q = q ∧ ew_lt (ew_ks g e n q) (ew_ks g e n r))) n = x := by
  have m : (ew_xl g f n)[x] ∈ ew_yl g e n lb := (ew_xy hp hs hg h).mem_iff.mpr (List.getElem_mem hx)
  unfold ew_yl at m
  obtain ⟨r, hr, he⟩ := List.mem_map.mp m
  obtain ⟨h1, h2⟩ := List.mem_filter.mp hr
  refine ⟨r, List.mem_range.mp h1, ew_dcI.mp h2, ew_rank hp hs hg h (List.mem_range.mp h1) (ew_dcI.mp h2) ?_⟩
  rw [he]
  exact List.getElem?_eq_getElem hx
theorem ew_cnt {f : Nat → ew_E} (hp : (ew_L f n).Perm (ew_L e n)) (hs : ew_srt f n) (hg : 0 < g) (h : ew_lab g e n lb) : ew_ct (fun i => ew_dc (lb i = i)) n = (ew_xl g f n).length := by
  rw [← (ew_xy hp hs hg h).length_eq]
  unfold ew_yl
  rw [List.length_map, ew_ct_r, List.countP_eq_length_filter]
end
end
section
/-! panes, records, firing and expiring, without any machine -/
section
abbrev ew_R : Type := (Nat → Int32) × (Nat → Int32) × (Nat → Int32) × (Nat → Int32) × (Nat → Int32) × Int32
def ew_em (R : ew_R) (kind key s e v : Int32) : ew_R :=
  (upd R.1 (R.2.2.2.2.2 &&& 63).toNatClampNeg kind, upd R.2.1 (R.2.2.2.2.2 &&& 63).toNatClampNeg key, upd R.2.2.1 (R.2.2.2.2.2 &&& 63).toNatClampNeg s, upd R.2.2.2.1 (R.2.2.2.2.2 &&& 63).toNatClampNeg e, upd R.2.2.2.2.1 (R.2.2.2.2.2 &&& 63).toNatClampNeg v, R.2.2.2.2.2 + 1)
def ew_rt (R : ew_R) (p : ew_P) : ew_R := ew_em R 4 (nI p.1) (nI p.2.1) (nI p.2.2.1) p.2.2.2
/-- pane p belongs to session x -/
def ew_bl (x p : ew_P) : Prop := p.1 = x.1 ∧ x.2.1 ≤ p.2.1 ∧ p.2.2.1 ≤ x.2.2.1
noncomputable def ew_B (x : ew_P) (P : List ew_P) : List ew_P := P.filter (fun p => ew_dc (ew_bl x p))
noncomputable def ew_N (x : ew_P) (P : List ew_P) : List ew_P := P.filter (fun p => ew_dc (¬ ew_bl x p))
def ew_pk (p : ew_P) : Nat × Nat := (p.1, p.2.1)
def ew_pl (a b : ew_P) : Prop := ew_lt (ew_pk a) (ew_pk b)
theorem ew_pl_as {a b : ew_P} (h : ew_pl a b) : ¬ ew_pl b a := ew_lt_as h
noncomputable def ew_ins (x : ew_P) : List ew_P → List ew_P
  | [] => [x]
  | y :: l => if ew_dc (ew_pl x y) = true then x :: y :: l else y :: ew_ins x l
theorem ew_ins_p (x : ew_P) : ∀ l, (ew_ins x l).Perm (x :: l) := by
  intro l
  induction l with
  | nil => exact List.Perm.refl _
  | cons y l ih =>
    rw [ew_ins]
    split
    · exact List.Perm.refl _
    · exact (List.Perm.cons y ih).trans (List.Perm.swap x y l)
theorem ew_ins_s (x : ew_P) : ∀ l, l.Pairwise ew_pl → (∀ y, y ∈ l → ew_pk y ≠ ew_pk x) → (ew_ins x l).Pairwise ew_pl := by
  intro l
  induction l with
  | nil => intro _ _; exact List.pairwise_singleton _ _
  | cons y l ih =>
    intro hp hn
    obtain ⟨h1, h2⟩ := List.pairwise_cons.mp hp
    rw [ew_ins]
    split
    · rename_i c
      have c' := ew_dcI.mp c
      refine List.pairwise_cons.mpr ⟨fun z hz => ?_, hp⟩
      rcases List.mem_cons.mp hz with d | d
      · rw [d]
        exact c'
      · have h4 := h1 z d
        unfold ew_pl ew_lt at h4 c' ⊢
        omega
    · rename_i c
      have c' : ¬ ew_pl x y := fun z => c (ew_dcI.mpr z)
      refine List.pairwise_cons.mpr ⟨fun z hz => ?_, ih h2 (fun z hz => hn z (List.mem_cons_of_mem _ hz))⟩
      rcases List.mem_cons.mp ((ew_ins_p x l).mem_iff.mp hz) with d | d
      · rw [d]
        have h3 := hn y List.mem_cons_self
        unfold ew_pl ew_lt at c' ⊢
        by_cases k1 : (ew_pk y).1 = (ew_pk x).1
        · have k3 : (ew_pk y).2 ≠ (ew_pk x).2 := fun k2 => h3 (Prod.ext k1 k2)
          omega
        · omega
      · exact h1 z d
/-- a sorted list is fixed by its members -/
theorem ew_srt1 {l l' : List ew_P} (h : l.Pairwise ew_pl) (h' : l'.Pairwise ew_pl) (p : l.Perm l') : l = l' :=
  List.Perm.eq_of_pairwise (fun _ _ _ _ a b => absurd b (ew_pl_as a)) h h' p
/-- x fires with this kind: panes and records behind it -/
noncomputable def ew_fi (kind : Int32) (st : List ew_P × ew_R) (x : ew_P) : List ew_P × ew_R :=
  @ite _ (ew_B x st.1 = [x]) (Classical.propDecidable _) st
    (if (ew_N x st.1).length < 32 then ew_ins x (ew_N x st.1) else ew_N x st.1, ew_em ((ew_B x st.1).foldl ew_rt st.2) kind (nI x.1) (nI x.2.1) (nI x.2.2.1) x.2.2.2)
theorem ew_fi_y {kind : Int32} {st : List ew_P × ew_R} {x : ew_P} (h : ew_B x st.1 = [x]) : ew_fi kind st x = st := by
  unfold ew_fi
  exact if_pos h
theorem ew_fi_n {kind : Int32} {st : List ew_P × ew_R} {x : ew_P} (h : ¬ ew_B x st.1 = [x]) : ew_fi kind st x = (if (ew_N x st.1).length < 32 then ew_ins x (ew_N x st.1) else ew_N x st.1, ew_em ((ew_B x st.1).foldl ew_rt st.2) kind (nI x.1) (nI x.2.1) (nI x.2.2.1) x.2.2.2) := by
  unfold ew_fi
  exact if_neg h
/-- every pane lies in a session -/
def ew_PI (g : Nat) (M : Nat → Nat → Prop) (p : ew_P) : Prop := p.2.1 < p.2.2.1 ∧ ∃ a b, M p.1 a ∧ M p.1 b ∧ ew_S g M p.1 a b ∧ a ≤ p.2.1 ∧ p.2.2.1 ≤ b + g
def ew_G (g : Nat) (E : List ew_E) (P : List ew_P) : Prop := P.Pairwise ew_pl ∧ (∀ p, p ∈ P → ew_PI g (ew_M E) p) ∧ P.length ≤ 32
theorem ew_BN (x : ew_P) (P : List ew_P) : P.Perm (ew_B x P ++ ew_N x P) := by
  have e1 : (fun p => ! ew_dc (ew_bl x p)) = (fun p => ew_dc (¬ ew_bl x p)) := by
    funext p
    by_cases h : ew_bl x p
    · rw [ew_dcI.mpr h, ew_dcF.mpr (fun z => z h)]
      rfl
    · rw [ew_dcF.mpr h, ew_dcI.mpr h]
      rfl
  have h1 : (P.filter (fun p => ew_dc (ew_bl x p)) ++ P.filter (fun p => ! ew_dc (ew_bl x p))).Perm P := List.filter_append_perm _ P
  rw [e1] at h1
  exact h1.symm
theorem ew_B_m {x p : ew_P} {P : List ew_P} : p ∈ ew_B x P ↔ p ∈ P ∧ ew_bl x p := by
  unfold ew_B
  rw [List.mem_filter, ew_dcI]
theorem ew_N_m {x p : ew_P} {P : List ew_P} : p ∈ ew_N x P ↔ p ∈ P ∧ ¬ ew_bl x p := by
  unfold ew_N
  rw [List.mem_filter, ew_dcI]
variable {g : Nat} {E : List ew_E} {k s : Nat}
/-- the end of a session: its last event's time and the gap -/
theorem ew_ss_e (ho : ew_O g (ew_M E) k s) : ∃ b, ew_M E k b ∧ ew_S g (ew_M E) k s b ∧ (ew_ss g E (k, s)).2.2.1 = b + g ∧ s ≤ b ∧ ∀ b', ew_M E k b' → ew_S g (ew_M E) k s b' → b' ≤ b := by
  obtain ⟨v, hv⟩ := ho.1
  have hne : E.filter (ew_cl g E k s) ≠ [] := List.ne_nil_of_mem (List.mem_filter.mpr ⟨hv, ew_dcI.mpr ⟨rfl, ew_Sr⟩⟩)
  obtain ⟨x, hx, he⟩ := ew_mx_mem _ hne
  obtain ⟨x1, x2⟩ := List.mem_filter.mp hx
  obtain ⟨x3, x4⟩ := ew_dcI.mp x2
  obtain ⟨xk, xt, xv⟩ := x
  dsimp only at x3 x4 he
  subst x3
  refine ⟨xt, ⟨xv, x1⟩, x4, ?_, ew_lo ho x4, ?_⟩
  · show ew_mx (E.filter (ew_cl g E xk s)) + g = xt + g
    rw [he]
  · rintro b' ⟨v', m'⟩ s'
    have := ew_mx_le (E.filter (ew_cl g E xk s)) (xk, b', v') (List.mem_filter.mpr ⟨m', ew_dcI.mpr ⟨rfl, s'⟩⟩)
    rw [he] at this
    exact this
/-- a pane that begins where a session begins belongs to it -/
theorem ew_same (ho : ew_O g (ew_M E) k s) {p : ew_P} (hp : ew_PI g (ew_M E) p) (h1 : p.1 = k) (h2 : p.2.1 = s) : ew_bl (ew_ss g E (k, s)) p := by
  obtain ⟨b0, m0, s0, e0, l0, x0⟩ := ew_ss_e ho
  obtain ⟨lt, a, b, ma, mb, sab, la, lb⟩ := hp
  rw [h1] at ma mb sab
  refine ⟨h1, by rw [h2]; exact Nat.le_refl _, ?_⟩
  rw [e0]
  by_cases c : s ≤ b
  · have ha : s ≤ a := (sab s ho).mpr c
    have : a = s := by omega
    subst this
    have := x0 b mb sab
    omega
  · have := ho.2 b mb (by omega)
    omega
theorem ew_pi_new (hg : 0 < g) (ho : ew_O g (ew_M E) k s) : ew_PI g (ew_M E) (ew_ss g E (k, s)) := by
  obtain ⟨b0, m0, s0, e0, l0, x0⟩ := ew_ss_e ho
  refine ⟨?_, s, b0, ho.1, m0, s0, Nat.le_refl _, Nat.le_of_eq e0⟩
  rw [e0]
  show s < b0 + g
  omega
theorem ew_N_p {P : List ew_P} (x : ew_P) (h : P.Pairwise ew_pl) : (ew_N x P).Pairwise ew_pl := List.Pairwise.filter _ h
theorem ew_B_p {P : List ew_P} (x : ew_P) (h : P.Pairwise ew_pl) : (ew_B x P).Pairwise ew_pl := List.Pairwise.filter _ h
theorem ew_fi_G (hg : 0 < g) (ho : ew_O g (ew_M E) k s) {st : List ew_P × ew_R} {kind : Int32} (h : ew_G g E st.1) : ew_G g E (ew_fi kind st (ew_ss g E (k, s))).1 := by
  by_cases c : ew_B (ew_ss g E (k, s)) st.1 = [ew_ss g E (k, s)]
  · rw [ew_fi_y c]
    exact h
  · rw [ew_fi_n c]
    dsimp only
    obtain ⟨h1, h2, h3⟩ := h
    have hN : (ew_N (ew_ss g E (k, s)) st.1).length ≤ 32 := Nat.le_trans (List.length_filter_le _ _) h3
    split
    · rename_i d
      refine ⟨ew_ins_s _ _ (ew_N_p _ h1) ?_, ?_, ?_⟩
      · intro y hy z
        obtain ⟨y1, y2⟩ := ew_N_m.mp hy
        exact y2 (ew_same ho (h2 y y1) (congrArg Prod.fst z) (congrArg Prod.snd z))
      · intro p hp
        rcases List.mem_cons.mp ((ew_ins_p _ _).mem_iff.mp hp) with z | z
        · subst z
          exact ew_pi_new hg ho
        · exact h2 p (ew_N_m.mp z).1
      · rw [(ew_ins_p _ _).length_eq, List.length_cons]
        omega
    · exact ⟨ew_N_p _ h1, fun p hp => h2 p (ew_N_m.mp hp).1, hN⟩
/-- in sync: one pane belongs, and it is x -/
theorem ew_sync {x : ew_P} {P Q : List ew_P} (hp : P.Perm Q) : ew_B x P = [x] ↔ (ew_B x Q).length = 1 ∧ ∃ p, p ∈ Q ∧ ew_bl x p ∧ p.2.1 = x.2.1 ∧ p.2.2.1 = x.2.2.1 ∧ p.2.2.2 = x.2.2.2 := by
  have hB : (ew_B x P).Perm (ew_B x Q) := hp.filter _
  constructor
  · intro h
    rw [h] at hB
    refine ⟨hB.length_eq.symm, ?_⟩
    have m := ew_B_m.mp (hB.mem_iff.mp List.mem_cons_self)
    exact ⟨x, m.1, m.2, rfl, rfl, rfl⟩
  · rintro ⟨h1, p, m, b, e1, e2, e3⟩
    have hl : (ew_B x P).length = 1 := hB.length_eq.trans h1
    obtain ⟨y, hy⟩ := List.length_eq_one_iff.mp hl
    have hpy : p ∈ ew_B x P := ew_B_m.mpr ⟨hp.mem_iff.mpr m, b⟩
    rw [hy] at hpy ⊢
    have : p = y := List.mem_singleton.mp hpy
    subst this
    have : p = x := Prod.ext b.1 (Prod.ext e1 (Prod.ext e2 e3))
    rw [this]
end
end
section
/-! expiring, relabelling, and moves in arrays, without any machine -/
section
variable {g k s t : Nat} {E : List ew_E}
/-- an event stays: its session has not expired -/
noncomputable def ew_kp (g : Nat) (E : List ew_E) (l W : Nat) (x : ew_E) : Bool := ew_dc (¬ ((ew_ss g E (x.1, ew_st g (ew_M E) x.1 x.2.1)).2.2.1 + l ≤ W))
/-- a pane stays: it belongs to no session that has expired -/
noncomputable def ew_pp (g : Nat) (E : List ew_E) (l W : Nat) (p : ew_P) : Bool := ew_dc (∀ ks : Nat × Nat, ew_O g (ew_M E) ks.1 ks.2 → (ew_ss g E ks).2.2.1 + l ≤ W → ¬ ew_bl (ew_ss g E ks) p)
theorem ew_kp_p {E' : List ew_E} {l W : Nat} (h : E.Perm E') : ew_kp g E l W = ew_kp g E' l W := by
  funext x
  unfold ew_kp
  rw [ew_ss_p h, ew_Mp h]
theorem ew_pp_p {E' : List ew_E} {l W : Nat} (h : E.Perm E') : ew_pp g E l W = ew_pp g E' l W := by
  funext x
  unfold ew_pp
  rw [ew_ss_p h, ew_Mp h]
theorem ew_kp_S {l W : Nat} {v v' : Int32} (h : ew_M E k s) (h' : ew_M E k t) (S : ew_S g (ew_M E) k s t) : ew_kp g E l W (k, s, v) = ew_kp g E l W (k, t, v') := by
  unfold ew_kp
  dsimp only
  rw [ew_st_S h h' S]
theorem ew_kp_M {l W : Nat} {v : Int32} : ew_M (E.filter (ew_kp g E l W)) k t ↔ ew_M E k t ∧ ew_kp g E l W (k, t, v) = true := by
  constructor
  · rintro ⟨v', m⟩
    obtain ⟨m1, m2⟩ := List.mem_filter.mp m
    exact ⟨⟨v', m1⟩, m2⟩
  · rintro ⟨⟨v', m⟩, h⟩
    exact ⟨v', List.mem_filter.mpr ⟨m, h⟩⟩
theorem ew_exp_G {P : List ew_P} {l W : Nat} (h : ew_G g E P) : ew_G g (E.filter (ew_kp g E l W)) (P.filter (ew_pp g E l W)) := by
  obtain ⟨h1, h2, h3⟩ := h
  refine ⟨List.Pairwise.filter _ h1, ?_, Nat.le_trans (List.length_filter_le _ _) h3⟩
  intro p hp
  obtain ⟨p1, p2⟩ := List.mem_filter.mp hp
  have p3 := ew_dcI.mp p2
  obtain ⟨lt, a, b, ma, mb, sab, la, lb⟩ := h2 p p1
  have hk : ew_kp g E l W (p.1, a, 0) = true := by
    apply ew_dcI.mpr
    dsimp only
    intro c
    obtain ⟨o1, o2⟩ := ew_st_s (g := g) ma
    obtain ⟨b0, m0, s0, e0, l0, x0⟩ := ew_ss_e o1
    refine p3 (p.1, ew_st g (ew_M E) p.1 a) o1 c ⟨rfl, ?_, ?_⟩
    · show ew_st g (ew_M E) p.1 a ≤ p.2.1
      have := ew_lo o1 o2
      omega
    · rw [e0]
      have := x0 b mb (ew_St o2 sab)
      omega
  have hk2 : ew_kp g E l W (p.1, b, 0) = true := by
    rw [← ew_kp_S (v := 0) ma mb sab]
    exact hk
  refine ⟨lt, a, b, ew_kp_M.mpr ⟨ma, hk⟩, ew_kp_M.mpr ⟨mb, hk2⟩, ?_, la, lb⟩
  refine ew_restrS ?_ (fun t m => ((ew_kp_M (v := 0)).mp m).1) sab
  intro t t' m m' l1 l2
  obtain ⟨n1, n2⟩ := (ew_kp_M (v := 0)).mp m
  refine (ew_kp_M (v := 0)).mpr ⟨m', ?_⟩
  rw [ew_kp_S (v' := 0) m' n1 (ew_lk m' (Nat.le_of_lt l1) l2)]
  exact n2
/-- more events: the panes still lie in sessions -/
theorem ew_add_G {E' : List ew_E} {P : List ew_P} (sub : ∀ x, x ∈ E → x ∈ E') (h : ew_G g E P) : ew_G g E' P := by
  obtain ⟨h1, h2, h3⟩ := h
  refine ⟨h1, fun p hp => ?_, h3⟩
  obtain ⟨lt, a, b, ma, mb, sab, la, lb⟩ := h2 p hp
  have sub' : ∀ t, ew_M E p.1 t → ew_M E' p.1 t := fun t ⟨v, m⟩ => ⟨v, sub _ m⟩
  exact ⟨lt, a, b, sub' a ma, sub' b mb, ew_mono sub' ma mb sab, la, lb⟩
end
section
variable {g n i j m p : Nat} {e : Nat → ew_E} {lb lb' : Nat → Nat}
def ew_lnk (g : Nat) (e : Nat → ew_E) (i j : Nat) : Prop := (e i).1 = (e j).1 ∧ (e i).2.1 < (e j).2.1 + g ∧ (e j).2.1 < (e i).2.1 + g
theorem ew_lnk_s (h : ew_lnk g e i j) : ew_lnk g e j i := ⟨h.1.symm, h.2.2, h.2.1⟩
theorem ew_lnk_si (hi : i < n) (hj : j < n) (h : ew_lnk g e i j) : ew_si g e n i j := by
  obtain ⟨h1, h2, h3⟩ := h
  refine ⟨h1.symm, ?_⟩
  by_cases c : (e i).2.1 ≤ (e j).2.1
  · exact ew_lk (ew_iM hi) c h3
  · have m : ew_M (ew_L e n) (e j).1 (e j).2.1 := ew_iM hj
    rw [← h1] at m
    exact ew_Ss (ew_lk m (by omega) h2)
theorem ew_clo (hg : 0 < g) (C : Nat → Prop) (hC : ∀ i j, i < n → j < n → ew_lnk g e i j → C i → C j) (hi : i < n) (hj : j < n) (s : ew_si g e n i j) (h : C i) : C j := by
  have hC' : ∀ a b, ew_M (ew_L e n) (e i).1 a → ew_M (ew_L e n) (e i).1 b → a ≤ b → b < a + g → ((∃ x, x < n ∧ (e x).1 = (e i).1 ∧ (e x).2.1 = a ∧ C x) ↔ (∃ x, x < n ∧ (e x).1 = (e i).1 ∧ (e x).2.1 = b ∧ C x)) := by
    intro a b ma mb l1 l2
    obtain ⟨x, hx, x1, x2⟩ := ew_ML.mp ma
    obtain ⟨y, hy, y1, y2⟩ := ew_ML.mp mb
    constructor
    · rintro ⟨z, hz, z1, z2, z3⟩
      exact ⟨y, hy, y1, y2, hC z y hz hy ⟨by rw [z1, y1], by omega, by omega⟩ z3⟩
    · rintro ⟨z, hz, z1, z2, z3⟩
      exact ⟨x, hx, x1, x2, hC z x hz hx ⟨by rw [z1, x1], by omega, by omega⟩ z3⟩
  have mj : ew_M (ew_L e n) (e j).1 (e j).2.1 := ew_iM hj
  rw [s.1] at mj
  obtain ⟨x, hx, h1, h2, h3⟩ := (ew_cls (g := g) (fun t => ∃ x, x < n ∧ (e x).1 = (e i).1 ∧ (e x).2.1 = t ∧ C x) hC' (ew_iM hi) mj s.2).mp ⟨i, hi, rfl, rfl, h⟩
  exact hC x j hx hj ⟨by rw [h1, s.1], by omega, by omega⟩ h3
def ew_i1 (g : Nat) (e : Nat → ew_E) (n : Nat) (lb : Nat → Nat) : Prop := ∀ i, i < n → lb i < n ∧ ew_si g e n i (lb i)
/-- a pass of the relabelling takes lb to lb' -/
def ew_ps (g : Nat) (e : Nat → ew_E) (n : Nat) (lb lb' : Nat → Nat) : Prop := ew_i1 g e n lb' ∧ (∀ i, i < n → lb' i ≤ lb i) ∧ ∀ i j, i < n → j < n → ew_lnk g e i j → lb' i ≤ lb j
def ew_Q (g : Nat) (e : Nat → ew_E) (n p : Nat) (lb : Nat → Nat) : Prop := ew_i1 g e n lb ∧ ∀ m, m < n → (∀ j, j < n → ew_si g e n m j → m ≤ j) →
  (lb m = m ∧ ((∀ i, i < n → ew_si g e n m i → lb i = m) ∨ p + 1 ≤ ew_ct (fun i => ew_dc (lb i = m)) n))
theorem ew_Q0 (h : ∀ i, i < n → lb i = i) : ew_Q g e n 0 lb := by
  refine ⟨fun i hi => by rw [h i hi]; exact ⟨hi, ew_si_r⟩, fun m hm _ => ⟨h m hm, Or.inr ?_⟩⟩
  have := ew_ct_lt (p := fun _ => false) (p' := fun i => ew_dc (lb i = m)) (m := n) (x := m) (fun i _ z => by cases z) hm (fun z => by cases z) (ew_dcI.mpr (h m hm))
  omega
theorem ew_Qs (hg : 0 < g) (h : ew_Q g e n p lb) (hp : ew_ps g e n lb lb') : ew_Q g e n (p + 1) lb' := by
  obtain ⟨h1, h2⟩ := h
  obtain ⟨p1, p2, p3⟩ := hp
  refine ⟨p1, fun m hm mn => ?_⟩
  obtain ⟨a1, a2⟩ := h2 m hm mn
  have ge : ∀ i, i < n → ew_si g e n m i → m ≤ lb' i := fun i hi s => mn _ (p1 i hi).1 (ew_si_t s (p1 i hi).2)
  have keep : ∀ i, i < n → lb i = m → lb' i = m := fun i hi z => by
    have q1 := p2 i hi
    have q2 := (h1 i hi).2
    rw [z] at q2
    have q3 := ge i hi (ew_si_s q2)
    omega
  refine ⟨keep m hm a1, ?_⟩
  by_cases c : ∀ i j, i < n → j < n → ew_lnk g e i j → lb i = m → lb j = m
  · refine Or.inl fun i hi s => keep i hi ?_
    exact ew_clo hg (fun x => lb x = m) c hm hi s a1
  · rcases a2 with a2 | a2
    · exact Or.inl fun i hi s => keep i hi (a2 i hi s)
    · refine Or.inr ?_
      have c2 : ∃ i j, i < n ∧ j < n ∧ ew_lnk g e i j ∧ lb i = m ∧ ¬ lb j = m := by
        refine Classical.byContradiction fun d => c fun i j hi hj l z => ?_
        exact Classical.byContradiction fun w => d ⟨i, j, hi, hj, l, z, w⟩
      obtain ⟨i, j, hi, hj, l, z, w⟩ := c2
      have q1 := p3 j i hj hi (ew_lnk_s l)
      have q2 := (h1 i hi).2
      rw [z] at q2
      have q3 := ge j hj (ew_si_t (ew_si_s q2) (ew_lnk_si hi hj l))
      have := ew_ct_lt (p := fun i => ew_dc (lb i = m)) (p' := fun i => ew_dc (lb' i = m)) (m := n) (x := j) (fun x hx y => ew_dcI.mpr (keep x hx (ew_dcI.mp y))) hj (fun y => w (ew_dcI.mp y)) (ew_dcI.mpr (by omega))
      omega
theorem ew_Qe (h : ew_Q g e n p lb) (hp : n ≤ p) : ew_lab g e n lb := by
  intro i hi
  obtain ⟨m, ⟨hm, s⟩, mn⟩ := pk_least (fun j => j < n ∧ ew_si g e n i j) ⟨i, hi, ew_si_r⟩
  have mn' : ∀ j, j < n → ew_si g e n i j → m ≤ j := fun j hj q => Nat.not_lt.mp fun c => mn j c ⟨hj, q⟩
  obtain ⟨a1, a2⟩ := h.2 m hm (fun j hj q => mn' j hj (ew_si_t s q))
  rcases a2 with a2 | a2
  · have := a2 i hi (ew_si_s s)
    rw [this]
    exact ⟨hm, s, mn'⟩
  · have := ew_ct_le (fun i => ew_dc (lb i = m)) n
    omega
end
section
variable {α : Type} {c i m b : Nat}
theorem ew_rep (q : Nat → α) (b : Nat) (y : α) : ∀ m, b < m → (q b :: ew_L (fun j => if j = b then y else q j) m).Perm (y :: ew_L q m) := by
  intro m
  induction m with
  | zero => intro h; omega
  | succ m ih =>
    intro h
    rw [ew_Ls, ew_Ls]
    by_cases c : m = b
    · have e1 : ew_L (fun j => if j = b then y else q j) m = ew_L q m := ew_Lc (fun i hi => if_neg (by omega))
      rw [if_pos c, e1, c]
      exact ((List.perm_append_singleton y _).cons _).trans ((List.Perm.swap _ _ _).trans ((List.perm_append_singleton (q b) _).symm.cons y))
    · rw [if_neg c]
      exact (ih (by omega)).append_right [q m]
theorem ew_rmv (q : Nat → α) (h : b < m + 1) : (ew_L q (m + 1)).Perm (q b :: ew_L (fun j => if j = b then q m else q j) m) := by
  rw [ew_Ls]
  refine (List.perm_append_singleton _ _).trans ?_
  by_cases c : b = m
  · subst c
    have e1 : ew_L (fun j => if j = b then q b else q j) b = ew_L q b := ew_Lc (fun i hi => if_neg (by omega))
    rw [e1]
  · exact (ew_rep q b (q m) m (by omega)).symm
theorem ew_cpy {cur f : Nat → α} {P : α → Bool} (h : ew_L cur c = (ew_L f i).filter P) (hp : P (f i) = true) : ew_L (fun j => if j = c then f i else cur j) (c + 1) = (ew_L f (i + 1)).filter P := by
  have e1 : ew_L (fun j => if j = c then f i else cur j) c = ew_L cur c := ew_Lc (fun j hj => if_neg (by omega))
  rw [ew_Ls, ew_Ls, List.filter_append, List.filter_cons_of_pos hp, ← h, if_pos rfl, e1]
  rfl
theorem ew_cpn {cur f : Nat → α} {P : α → Bool} (h : ew_L cur c = (ew_L f i).filter P) (hp : ¬ P (f i) = true) : ew_L cur c = (ew_L f (i + 1)).filter P := by
  rw [ew_Ls, List.filter_append, List.filter_cons_of_neg hp, ← h]
  exact (List.append_nil _).symm
/-- f with x put in at place b -/
def ew_put (f : Nat → α) (x : α) (b : Nat) (j : Nat) : α := if j < b then f j else if j = b then x else f (j - 1)
theorem ew_put_p (f : Nat → α) (x : α) (b : Nat) : ∀ m, b ≤ m → (ew_L (ew_put f x b) (m + 1)).Perm (x :: ew_L f m) := by
  intro m
  induction m with
  | zero =>
    intro h
    have : b = 0 := by omega
    subst this
    have e1 : ew_put f x 0 0 = x := by
      unfold ew_put
      rw [if_neg (by omega), if_pos rfl]
    rw [ew_Ls, e1]
    exact List.Perm.refl _
  | succ m ih =>
    intro h
    rw [ew_Ls]
    by_cases c : b = m + 1
    · subst c
      have e1 : ew_put f x (m + 1) (m + 1) = x := by
        unfold ew_put
        rw [if_neg (by omega), if_pos rfl]
      have e2 : ew_L (ew_put f x (m + 1)) (m + 1) = ew_L f (m + 1) := ew_Lc (fun j hj => if_pos hj)
      rw [e1, e2]
      exact List.perm_append_singleton _ _
    · have e1 : ew_put f x b (m + 1) = f m := by
        unfold ew_put
        rw [if_neg (by omega), if_neg (by omega)]
        rfl
      rw [e1, ew_Ls f m]
      exact (ih (by omega)).append_right [f m]
theorem ew_Lp {R : α → α → Prop} {f : Nat → α} : ∀ m, (ew_L f m).Pairwise R ↔ ∀ i j, i < j → j < m → R (f i) (f j) := by
  intro m
  induction m with
  | zero => exact ⟨fun _ i j _ h => by omega, fun _ => List.Pairwise.nil⟩
  | succ m ih =>
    rw [ew_Ls, List.pairwise_append, ih]
    constructor
    · rintro ⟨h1, _, h3⟩ i j hij hj
      by_cases c : j = m
      · subst c
        exact h3 _ (ew_Lm.mpr ⟨i, hij, rfl⟩) _ List.mem_cons_self
      · exact h1 i j hij (by omega)
    · intro h
      refine ⟨fun i j hij hj => h i j hij (by omega), List.pairwise_singleton _ _, ?_⟩
      intro a ha b hb
      obtain ⟨i, hi, rfl⟩ := ew_Lm.mp ha
      rw [List.mem_singleton.mp hb]
      exact h i m hi (by omega)
end
end
section
/-! what the walks ask of the pure part -/
section
variable {g n i j m q x : Nat} {e : Nat → ew_E}
theorem ew_ksX (hs : ew_srt e n) (hx : x < n) (hix : i ≤ x) (ho : ew_op g e i) (hno : ∀ j, i < j → j ≤ x → ¬ ew_op g e j) : ew_ks g e n x = ((e i).1, (e i).2.1) := by
  obtain ⟨q, hb⟩ := ew_bx (g := g) (e := e) (show i < n by omega)
  have hq : x < q := Nat.not_le.mp fun c => hno q hb.1 c (hb.2.2.2 (by omega))
  obtain ⟨k1, s1⟩ := ew_bf hs hb x hix hq
  have O := ew_opO hs (show i < n by omega) ho
  have m : ew_M (ew_L e n) (e x).1 (e x).2.1 := ew_iM hx
  unfold ew_ks
  rw [k1] at m ⊢
  rw [ew_st_e m O s1]
/-- an event stays as its session says -/
theorem ew_kp_k {l W : Nat} : ew_kp g (ew_L e n) l W (e i) = ew_dc (¬ ((ew_ss g (ew_L e n) (ew_ks g e n i)).2.2.1 + l ≤ W)) := rfl
theorem ew_Lad {α : Type} (e : Nat → α) (i : Nat) : ∀ d, ew_L e (i + d) = ew_L e i ++ ew_L (fun j => e (i + j)) d := by
  intro d
  induction d with
  | zero => exact (List.append_nil _).symm
  | succ d ih =>
    rw [← Nat.add_assoc, ew_Ls, ih, ew_Ls, List.append_assoc]
theorem ew_Lsp {α : Type} (e : Nat → α) (h : i ≤ n) : ew_L e n = ew_L e i ++ ew_L (fun j => e (i + j)) (n - i) := by
  rw [← ew_Lad, show i + (n - i) = n by omega]
/-- lists with one prefix of a length -/
theorem ew_Lpre {α : Type} {c e : Nat → α} {nc : Nat} {T : List α} (h : ew_L c nc = ew_L e q ++ T) : nc = q + T.length ∧ (∀ j, j < q → c j = e j) ∧ ew_L (fun j => c (q + j)) (nc - q) = T := by
  have hl := congrArg List.length h
  rw [List.length_append, ew_Ll, ew_Ll] at hl
  have h1 : ∀ j, j < q → c j = e j := by
    intro j hj
    have h2 := congrArg (fun l => l[j]?) h
    rw [ew_Lg (by omega), List.getElem?_append_left (by rw [ew_Ll]; exact hj), ew_Lg hj] at h2
    exact Option.some.inj h2
  refine ⟨hl, h1, ?_⟩
  have e1 : ew_L c q = ew_L e q := ew_Lc h1
  rw [ew_Lsp c (show q ≤ nc by omega), e1] at h
  exact List.append_cancel_left h
/-- one function for two lists -/
def ew_cat {α : Type} (a b : Nat → α) (i j : Nat) : α := if j < i then a j else b (j - i)
theorem ew_cat_L {α : Type} (a b : Nat → α) (i d : Nat) : ew_L (ew_cat a b i) (i + d) = ew_L a i ++ ew_L b d := by
  rw [ew_Lad]
  congr 1
  · exact ew_Lc (fun j hj => if_pos hj)
  · apply ew_Lc
    intro j _
    unfold ew_cat
    rw [if_neg (by omega), Nat.add_sub_cancel_left]
theorem ew_filt_all {α : Type} {l : List α} {P : α → Bool} (h : ∀ x, x ∈ l → P x = true) : l.filter P = l := List.filter_eq_self.mpr h
theorem ew_filt_none {α : Type} {l : List α} {P : α → Bool} (h : ∀ x, x ∈ l → P x = false) : l.filter P = [] := List.filter_eq_nil_iff.mpr (fun x hx z => by rw [h x hx] at z; cases z)
/-- the events behind q that stay -/
noncomputable def ew_T (g : Nat) (e : Nat → ew_E) (n l W q : Nat) : List ew_E := (ew_L (fun j => e (q + j)) (n - q)).filter (ew_kp g (ew_L e n) l W)
theorem ew_T_blk {l W : Nat} (hs : ew_srt e n) (hb : ew_blk g e n i q) (ho : ew_op g e i) : ∀ y, y ∈ ew_L (fun j => e (i + j)) (q - i) → ew_kp g (ew_L e n) l W y = ew_dc (¬ ((ew_ss g (ew_L e n) ((e i).1, (e i).2.1)).2.2.1 + l ≤ W)) := by
  intro y hy
  obtain ⟨j, hj, rfl⟩ := ew_Lm.mp hy
  have h1 := hb.1
  have h2 := hb.2.1
  rw [ew_kp_k, ew_ksX hs (x := i + j) (by omega) (by omega) ho (fun x a b => hb.2.2.1 x a (by omega))]
theorem ew_T_split {l W : Nat} (hb : ew_blk g e n i q) : ew_T g e n l W i = (ew_L (fun j => e (i + j)) (q - i)).filter (ew_kp g (ew_L e n) l W) ++ ew_T g e n l W q := by
  have h1 := hb.1
  have h2 := hb.2.1
  unfold ew_T
  rw [← List.filter_append]
  congr 1
  have := ew_Lad (fun j => e (i + j)) (q - i) (n - q)
  rw [show q - i + (n - q) = n - i by omega] at this
  rw [this]
  congr 1
  apply ew_Lc
  intro j _
  rw [show i + (q - i + j) = q + j by omega]
/-- the session at i stays -/
theorem ew_T_y {l W : Nat} (hs : ew_srt e n) (hb : ew_blk g e n i q) (ho : ew_op g e i) (h : ¬ ((ew_ss g (ew_L e n) ((e i).1, (e i).2.1)).2.2.1 + l ≤ W)) : ew_L e q ++ ew_T g e n l W q = ew_L e i ++ ew_T g e n l W i := by
  have h1 := hb.1
  rw [ew_T_split hb, ew_filt_all (fun y hy => by rw [ew_T_blk hs hb ho y hy]; exact ew_dcI.mpr h), ← List.append_assoc, ← ew_Lsp e (show i ≤ q by omega)]
/-- the session at i goes -/
theorem ew_T_n {l W : Nat} (hs : ew_srt e n) (hb : ew_blk g e n i q) (ho : ew_op g e i) (h : (ew_ss g (ew_L e n) ((e i).1, (e i).2.1)).2.2.1 + l ≤ W) : ew_T g e n l W q = ew_T g e n l W i := by
  rw [ew_T_split hb, ew_filt_none (fun y hy => by rw [ew_T_blk hs hb ho y hy]; exact ew_dcF.mpr (fun z => z h)), List.nil_append]
theorem ew_T_m {l W : Nat} {y : ew_E} (h : y ∈ ew_T g e n l W q) : ∃ j, q ≤ j ∧ j < n ∧ e j = y := by
  obtain ⟨j, hj, h2⟩ := ew_Lm.mp (List.mem_filter.mp h).1
  exact ⟨q + j, by omega, by omega, h2⟩
theorem ew_T_e {l W : Nat} : ew_T g e n l W n = [] := by
  unfold ew_T
  rw [Nat.sub_self]
  rfl
theorem ew_T_0 {l W : Nat} : ew_T g e n l W 0 = (ew_L e n).filter (ew_kp g (ew_L e n) l W) := by
  unfold ew_T
  have e1 : ew_L (fun j => e (0 + j)) (n - 0) = ew_L e n := ew_Lc (fun j _ => by rw [Nat.zero_add])
  rw [e1]
/-- the block at i, in the sequence c that has only the first q of e as they were -/
theorem ew_T_b {c : Nat → ew_E} {nc l W : Nat} (hs : ew_srt e n) (hb : ew_blk g e n i q) (h : ew_L c nc = ew_L e q ++ ew_T g e n l W q) : ew_blk g c nc i q := by
  obtain ⟨h1, h2, h3⟩ := ew_Lpre h
  have b1 := hb.1
  have b2 := hb.2.1
  have op_e : ∀ j, j < q → (ew_op g c j ↔ ew_op g e j) := by
    intro j hj
    unfold ew_op
    rw [h2 j hj, h2 (j - 1) (by omega)]
  refine ⟨b1, by omega, fun j a b z => hb.2.2.1 j a b ((op_e j b).mp z), fun c1 => ?_⟩
  have m : c q ∈ ew_T g e n l W q := by
    rw [← h3]
    exact ew_Lm.mpr ⟨0, by omega, rfl⟩
  obtain ⟨j, j1, j2, j3⟩ := ew_T_m m
  have oq := hb.2.2.2 (by omega)
  have s1 := hs (q - 1) q (by omega) (by omega)
  have s2 := hs q j j1 j2
  unfold ew_op at oq ⊢
  rw [← j3, h2 (q - 1) (by omega)]
  omega
end
section
variable {g n i j m x : Nat} {e : Nat → ew_E}
/-- panes that no expired session opening at a position from x on takes -/
noncomputable def ew_FX (g : Nat) (e : Nat → ew_E) (n l W x : Nat) (p : ew_P) : Bool :=
  ew_dc (∀ j, x ≤ j → j < n → ew_op g e j → (ew_ss g (ew_L e n) ((e j).1, (e j).2.1)).2.2.1 + l ≤ W → ¬ ew_bl (ew_ss g (ew_L e n) ((e j).1, (e j).2.1)) p)
theorem ew_FX_n {l W : Nat} (P : List ew_P) : P.filter (ew_FX g e n l W n) = P :=
  ew_filt_all (fun p _ => ew_dcI.mpr (fun j a b => by omega))
theorem ew_FX_0 {l W : Nat} (hs : ew_srt e n) (hg : 0 < g) : ew_FX g e n l W 0 = ew_pp g (ew_L e n) l W := by
  funext p
  apply ew_dcC
  constructor
  · intro h ks ho he
    have m := (ew_xl_m hs hg).mpr ho
    unfold ew_xl at m
    obtain ⟨j, hj, h2⟩ := List.mem_map.mp m
    obtain ⟨h3, h4⟩ := List.mem_filter.mp hj
    subst h2
    exact h j (Nat.zero_le _) (List.mem_range.mp h3) (ew_dcI.mp h4) he
  · intro h j _ hj ho he
    exact h ((e j).1, (e j).2.1) (ew_opO hs hj ho) he
theorem ew_FX_keep {l W : Nat} (P : List ew_P) (h : ¬ (ew_op g e x ∧ (ew_ss g (ew_L e n) ((e x).1, (e x).2.1)).2.2.1 + l ≤ W)) : P.filter (ew_FX g e n l W (x + 1)) = P.filter (ew_FX g e n l W x) := by
  congr 1
  funext p
  apply ew_dcC
  constructor
  · intro z j a b c d
    by_cases f : j = x
    · subst f
      exact absurd ⟨c, d⟩ h
    · exact z j (by omega) b c d
  · intro z j a
    exact z j (by omega)
theorem ew_FX_go {l W : Nat} (P : List ew_P) (hx : x < n) (ho : ew_op g e x) (h : (ew_ss g (ew_L e n) ((e x).1, (e x).2.1)).2.2.1 + l ≤ W) : ew_N (ew_ss g (ew_L e n) ((e x).1, (e x).2.1)) (P.filter (ew_FX g e n l W (x + 1))) = P.filter (ew_FX g e n l W x) := by
  unfold ew_N
  rw [List.filter_filter]
  congr 1
  funext p
  rw [Bool.eq_iff_iff, Bool.and_eq_true, ew_dcI]
  unfold ew_FX
  rw [ew_dcI, ew_dcI]
  constructor
  · rintro ⟨z1, z2⟩ j a b c d
    by_cases f : j = x
    · subst f
      exact z1
    · exact z2 j (by omega) b c d
  · intro z
    exact ⟨z x (Nat.le_refl _) hx ho h, fun j a => z j (by omega)⟩
variable {lb : Nat → Nat}
/-- panes that no expired session with a representative below x takes -/
noncomputable def ew_FY (g : Nat) (e : Nat → ew_E) (n : Nat) (lb : Nat → Nat) (l W x : Nat) (p : ew_P) : Bool :=
  ew_dc (∀ j, j < x → lb j = j → (ew_ss g (ew_L e n) (ew_ks g e n j)).2.2.1 + l ≤ W → ¬ ew_bl (ew_ss g (ew_L e n) (ew_ks g e n j)) p)
theorem ew_FY_0 {l W : Nat} (P : List ew_P) : P.filter (ew_FY g e n lb l W 0) = P :=
  ew_filt_all (fun p _ => ew_dcI.mpr (fun j a => by omega))
theorem ew_FY_n {l W : Nat} (h : ew_lab g e n lb) : ew_FY g e n lb l W n = ew_pp g (ew_L e n) l W := by
  funext p
  apply ew_dcC
  constructor
  · intro z ks ho he
    have m := (ew_yl_m h).mpr ho
    unfold ew_yl at m
    obtain ⟨j, hj, h2⟩ := List.mem_map.mp m
    obtain ⟨h3, h4⟩ := List.mem_filter.mp hj
    subst h2
    exact z j (List.mem_range.mp h3) (ew_dcI.mp h4) he
  · intro z j hj _ he
    exact z (ew_ks g e n j) (ew_ks_O hj) he
theorem ew_FY_keep {l W : Nat} (P : List ew_P) (h : ¬ (lb x = x ∧ (ew_ss g (ew_L e n) (ew_ks g e n x)).2.2.1 + l ≤ W)) : P.filter (ew_FY g e n lb l W (x + 1)) = P.filter (ew_FY g e n lb l W x) := by
  congr 1
  funext p
  apply ew_dcC
  constructor
  · intro z j a
    exact z j (by omega)
  · intro z j a c d
    by_cases f : j = x
    · subst f
      exact absurd ⟨c, d⟩ h
    · exact z j (by omega) c d
theorem ew_FY_go {l W : Nat} (P : List ew_P) (ho : lb x = x) (h : (ew_ss g (ew_L e n) (ew_ks g e n x)).2.2.1 + l ≤ W) : ew_N (ew_ss g (ew_L e n) (ew_ks g e n x)) (P.filter (ew_FY g e n lb l W x)) = P.filter (ew_FY g e n lb l W (x + 1)) := by
  unfold ew_N
  rw [List.filter_filter]
  congr 1
  funext p
  rw [Bool.eq_iff_iff, Bool.and_eq_true, ew_dcI]
  unfold ew_FY
  rw [ew_dcI, ew_dcI]
  constructor
  · rintro ⟨z1, z2⟩ j a c d
    by_cases f : j = x
    · subst f
      exact z1
    · exact z2 j (by omega) c d
  · intro z
    exact ⟨z x (by omega) ho h, fun j a => z j (by omega)⟩
end
section
variable {m x y : Nat} {q : Nat → ew_P} {P : List ew_P}
theorem ew_prank (hp : P.Perm (ew_L q m)) (hs : P.Pairwise ew_pl) (hx : P[x]? = some (q y)) : ew_ct (fun j => ew_dc (ew_pl (q j) (q y))) m = x := by
  rw [← ew_ct_L q (fun z => ew_dc (ew_pl z (q y))), ← List.countP_eq_length_filter, ← hp.countP_eq]
  exact ew_rk ew_pl (fun _ _ => ew_pl_as) P hs x (q y) hx
theorem ew_prankx (hp : P.Perm (ew_L q m)) (hs : P.Pairwise ew_pl) (hy : y < m) (hx : ew_ct (fun j => ew_dc (ew_pl (q j) (q y))) m = x) : P[x]? = some (q y) := by
  obtain ⟨z, hz⟩ := List.mem_iff_getElem?.mp (hp.mem_iff.mpr (ew_Lm.mpr ⟨y, hy, rfl⟩))
  rw [← hx, ew_prank hp hs hz]
  exact hz
theorem ew_ppx (hp : P.Perm (ew_L q m)) (hs : P.Pairwise ew_pl) (hx : x < m) : ∃ y, y < m ∧ ew_ct (fun j => ew_dc (ew_pl (q j) (q y))) m = x := by
  have hl : P.length = m := hp.length_eq.trans (ew_Ll q m)
  obtain ⟨y, hy, h2⟩ := ew_Lm.mp (hp.mem_iff.mp (List.getElem_mem (show x < P.length by omega)))
  exact ⟨y, hy, ew_prank hp hs (by rw [h2]; exact List.getElem?_eq_getElem _)⟩
/-- the least start among those that belong is the first in order -/
theorem ew_pick {s b z : ew_P} {B N Q : List ew_P} (hQ : Q.Perm ((b :: B) ++ N)) (hs : (b :: B).Pairwise ew_pl) (hB : ∀ y, y ∈ b :: B → ew_bl s y) (hN : ∀ y, y ∈ N → ¬ ew_bl s y)
    (hz : z ∈ Q) (bz : ew_bl s z) (mn : ∀ y, y ∈ Q → ew_bl s y → z.2.1 ≤ y.2.1) : z = b := by
  rcases List.mem_append.mp (hQ.mem_iff.mp hz) with h | h
  · rcases List.mem_cons.mp h with h | h
    · exact h
    · have h1 := (List.pairwise_cons.mp hs).1 z h
      have h2 := mn b (hQ.mem_iff.mpr (List.mem_append.mpr (Or.inl List.mem_cons_self))) (hB b List.mem_cons_self)
      have h3 := (hB b List.mem_cons_self).1
      have h4 := bz.1
      unfold ew_pl ew_lt ew_pk at h1
      dsimp only at h1
      omega
  · exact absurd bz (hN z h)
end
section
variable {g n i j m x : Nat} {e : Nat → ew_E}
theorem ew_ct_pos {p : Nat → Bool} : ∀ m, 0 < ew_ct p m ↔ ∃ i, i < m ∧ p i = true := by
  intro m
  induction m with
  | zero => exact ⟨fun h => absurd h (Nat.lt_irrefl 0), fun ⟨i, h, _⟩ => absurd h (Nat.not_lt_zero i)⟩
  | succ m ih =>
    rw [ew_ct]
    by_cases c : p m = true
    · rw [if_pos c]
      exact ⟨fun _ => ⟨m, Nat.lt_succ_self m, c⟩, fun _ => Nat.succ_pos _⟩
    · rw [if_neg c, ih]
      constructor
      · rintro ⟨i, h, h2⟩
        exact ⟨i, by omega, h2⟩
      · rintro ⟨i, h, h2⟩
        have : i ≠ m := fun z => c (z ▸ h2)
        exact ⟨i, by omega, h2⟩
/-- pane p is x itself -/
def ew_mt (x p : ew_P) : Prop := ew_bl x p ∧ p.2.1 = x.2.1 ∧ p.2.2.1 = x.2.2.1 ∧ p.2.2.2 = x.2.2.2
theorem ew_syncX {P : List ew_P} {p : Nat → ew_P} {x : ew_P} (hp : P.Perm (ew_L p m)) : ew_B x P = [x] ↔ ew_ct (fun i => ew_dc (ew_bl x (p i))) m = 1 ∧ ew_ct (fun i => ew_dc (ew_mt x (p i))) m = 1 := by
  rw [ew_sync hp]
  have e1 : (ew_B x (ew_L p m)).length = ew_ct (fun i => ew_dc (ew_bl x (p i))) m := ew_ct_L p (fun y => ew_dc (ew_bl x y)) m
  have h2 := ew_ct_mono (p := fun i => ew_dc (ew_mt x (p i))) (p' := fun i => ew_dc (ew_bl x (p i))) (m := m) (fun i _ z => ew_dcI.mpr (ew_dcI.mp z).1)
  have h3 := ew_ct_pos (p := fun i => ew_dc (ew_mt x (p i))) m
  rw [e1]
  constructor
  · rintro ⟨a, y, hy, b, c1, c2, c3⟩
    obtain ⟨i, hi, rfl⟩ := ew_Lm.mp hy
    have := h3.mpr ⟨i, hi, ew_dcI.mpr ⟨b, c1, c2, c3⟩⟩
    exact ⟨a, by omega⟩
  · rintro ⟨a, b⟩
    obtain ⟨i, hi, hm⟩ := h3.mp (by omega)
    obtain ⟨d, c1, c2, c3⟩ := ew_dcI.mp hm
    exact ⟨a, p i, ew_Lm.mpr ⟨i, hi, rfl⟩, d, c1, c2, c3⟩
theorem ew_syncY {P : List ew_P} {p : Nat → ew_P} {x : ew_P} (hp : P.Perm (ew_L p m)) : ew_B x P = [x] ↔ ew_ct (fun i => ew_dc (ew_bl x (p i))) m = 1 ∧ 0 < ew_ct (fun i => ew_dc (ew_mt x (p i))) m := by
  rw [ew_syncX hp]
  have h2 := ew_ct_mono (p := fun i => ew_dc (ew_mt x (p i))) (p' := fun i => ew_dc (ew_bl x (p i))) (m := m) (fun i _ z => ew_dcI.mpr (ew_dcI.mp z).1)
  omega
/-- what holds of the numbers: gap, lateness, watermark, stored events -/
def ew_ok (g l W n : Nat) (e : Nat → ew_E) : Prop := 0 < g ∧ g ≤ 1000 ∧ l ≤ 1000 ∧ W ≤ 2100000 ∧ n ≤ 32 ∧ ∀ i, i < n → (e i).1 ≤ 7 ∧ (e i).2.1 ≤ 1000000
theorem ew_okM {l W k t : Nat} (h : ew_ok g l W n e) (m : ew_M (ew_L e n) k t) : k ≤ 7 ∧ t ≤ 1000000 := by
  obtain ⟨i, hi, h1, h2⟩ := ew_ML.mp m
  have := h.2.2.2.2.2 i hi
  omega
theorem ew_okP {l W : Nat} {P : List ew_P} {p : ew_P} (h : ew_ok g l W n e) (hG : ew_G g (ew_L e n) P) (hp : p ∈ P) : p.1 ≤ 7 ∧ p.2.1 < p.2.2.1 ∧ p.2.2.1 ≤ 1001000 := by
  obtain ⟨lt, a, b, ma, mb, sab, la, lb⟩ := hG.2.1 p hp
  have h1 := ew_okM h ma
  have h2 := ew_okM h mb
  have := h.2.1
  omega
theorem ew_okS {l W : Nat} {ks : Nat × Nat} (h : ew_ok g l W n e) (ho : ew_O g (ew_M (ew_L e n)) ks.1 ks.2) : (ew_ss g (ew_L e n) ks).1 ≤ 7 ∧ (ew_ss g (ew_L e n) ks).2.1 ≤ 1000000 ∧ (ew_ss g (ew_L e n) ks).2.2.1 ≤ 1001000 := by
  obtain ⟨b, mb, s, he, l1, _⟩ := ew_ss_e ho
  have h1 := ew_okM h ho.1
  have h2 := ew_okM h mb
  have h3 := h.2.1
  refine ⟨h1.1, h1.2, ?_⟩
  show (ew_ss g (ew_L e n) (ks.1, ks.2)).2.2.1 ≤ 1001000
  rw [he]
  omega
theorem ew_ok_p {l W : Nat} {f : Nat → ew_E} (h : ew_ok g l W n e) (hp : (ew_L e n).Perm (ew_L f n)) : ew_ok g l W n f := by
  obtain ⟨h1, h2, h3, h4, h5, h6⟩ := h
  refine ⟨h1, h2, h3, h4, h5, fun i hi => ?_⟩
  obtain ⟨j, hj, he⟩ := ew_Lm.mp (hp.mem_iff.mpr (ew_Lm.mpr ⟨i, hi, rfl⟩))
  rw [← he]
  exact h6 j hj
/-- arrays that hold events -/
def ew_aE (n : Nat) (e : Nat → ew_E) (ak aT av : Nat → Int32) : Prop := ∀ i, i < n → ak i = nI (e i).1 ∧ aT i = nI (e i).2.1 ∧ av i = (e i).2.2
/-- arrays that hold panes -/
def ew_aP (m : Nat) (p : Nat → ew_P) (pk ps pe pv : Nat → Int32) : Prop := ∀ i, i < m → pk i = nI (p i).1 ∧ ps i = nI (p i).2.1 ∧ pe i = nI (p i).2.2.1 ∧ pv i = (p i).2.2.2
theorem ew_abs {a b : Nat} (ha : a < 2 ^ 30) (hb : b < 2 ^ 30) {A B : Int32 → Prop} (h1 : a < b → A (nI (b - a))) (h2 : b ≤ a → B (nI (a - b))) : (nI a - nI b < 0 → A (-(nI a - nI b))) ∧ (¬ nI a - nI b < 0 → B (nI a - nI b)) := by
  by_cases c : a < b
  · refine br_t (pk_sneg hb c) ?_
    rw [Int32.neg_sub, pk_sub (by omega)]
    exact h1 c
  · rw [pk_sub (by omega)]
    exact br_f (nI_pos (by omega)) (h2 (by omega))
end
section
variable {n m b : Nat}
theorem ew_put_a {α : Type} {f : Nat → α} {x : α} {j : Nat} (h : j < b) : ew_put f x b j = f j := if_pos h
theorem ew_put_b {α : Type} {f : Nat → α} {x : α} : ew_put f x b b = x := by
  unfold ew_put
  rw [if_neg (Nat.lt_irrefl b), if_pos rfl]
theorem ew_put_c {α : Type} {f : Nat → α} {x : α} {j : Nat} (h : b < j) : ew_put f x b j = f (j - 1) := by
  unfold ew_put
  rw [if_neg (by omega), if_neg (by omega)]
theorem ew_put_s {e : Nat → ew_E} {k t : Nat} {v : Int32} (hs : ew_srt e n) (hb : b ≤ n) (h1 : ∀ j, b ≤ j → j < n → k < (e j).1 ∨ (k = (e j).1 ∧ t < (e j).2.1)) (h2 : b = 0 ∨ (e (b - 1)).1 < k ∨ ((e (b - 1)).1 = k ∧ (e (b - 1)).2.1 ≤ t)) : ew_srt (ew_put e (k, t, v) b) (n + 1) := by
  intro i j hij hj
  by_cases a : i < b
  · rw [ew_put_a a]
    by_cases c : j < b
    · rw [ew_put_a c]
      exact hs i j hij (by omega)
    · by_cases d : j = b
      · rw [d, ew_put_b]
        have := hs i (b - 1) (by omega) (by omega)
        dsimp only
        omega
      · rw [ew_put_c (show b < j by omega)]
        exact hs i (j - 1) (by omega) (by omega)
  · by_cases a2 : i = b
    · rw [a2, ew_put_b]
      by_cases d : j = b
      · rw [d, ew_put_b]
        exact Or.inr ⟨rfl, Nat.le_refl _⟩
      · rw [ew_put_c (show b < j by omega)]
        have := h1 (j - 1) (by omega) (by omega)
        dsimp only
        omega
    · rw [ew_put_c (show b < i by omega), ew_put_c (show b < j by omega)]
      exact hs (i - 1) (j - 1) (by omega) (by omega)
theorem ew_put_l {p : Nat → ew_P} {x : ew_P} (hs : (ew_L p m).Pairwise ew_pl) (hb : b ≤ m) (h1 : ∀ j, b ≤ j → j < m → ew_pl x (p j)) (h2 : b = 0 ∨ ¬ ew_pl x (p (b - 1))) (hne : ∀ y, y ∈ ew_L p m → ew_pk y ≠ ew_pk x) : ew_L (ew_put p x b) (m + 1) = ew_ins x (ew_L p m) := by
  refine ew_srt1 ?_ (ew_ins_s x _ hs hne) ((ew_put_p p x b m hb).trans (ew_ins_p x _).symm)
  have hs' := (ew_Lp m).mp hs
  apply (ew_Lp (m + 1)).mpr
  have tr : ∀ {a b c : ew_P}, ew_pl a b → ew_pl b c → ew_pl a c := by
    intro a b c u v
    unfold ew_pl ew_lt at u v ⊢
    omega
  have low : ∀ i, i < b → ew_pl (p i) x := by
    intro i hi
    have h3 : ew_pl (p (b - 1)) x := by
      have n1 := hne (p (b - 1)) (ew_Lm.mpr ⟨b - 1, by omega, rfl⟩)
      have n2 : ¬ ew_pl x (p (b - 1)) := by
        rcases h2 with h2 | h2
        · omega
        · exact h2
      unfold ew_pl ew_lt at n2 ⊢
      by_cases k1 : (ew_pk (p (b - 1))).1 = (ew_pk x).1
      · have k3 : (ew_pk (p (b - 1))).2 ≠ (ew_pk x).2 := fun k2 => n1 (Prod.ext k1 k2)
        omega
      · omega
    by_cases c : i = b - 1
    · rw [c]
      exact h3
    · exact tr (hs' i (b - 1) (by omega) (by omega)) h3
  intro i j hij hj
  by_cases a : i < b
  · rw [ew_put_a a]
    by_cases c : j < b
    · rw [ew_put_a c]
      exact hs' i j hij (by omega)
    · by_cases d : j = b
      · rw [d, ew_put_b]
        exact low i a
      · rw [ew_put_c (show b < j by omega)]
        by_cases f : i = j - 1
        · omega
        · exact hs' i (j - 1) (by omega) (by omega)
  · by_cases a2 : i = b
    · rw [a2, ew_put_b, ew_put_c (show b < j by omega)]
      exact h1 (j - 1) (by omega) (by omega)
    · rw [ew_put_c (show b < i by omega), ew_put_c (show b < j by omega)]
      exact hs' (i - 1) (j - 1) (by omega) (by omega)
end
end
section
/-! X: what reads alone -/
section
theorem ew_10 : ¬ (1 : Int32) = 0 := by decide
def ew_ev (g n : Nat) (e : Nat → ew_E) (ak aT av : Nat → Int32) : Prop := 0 < g ∧ g ≤ 1000 ∧ n ≤ 32 ∧ ew_aE n e ak aT av ∧ ∀ i, i < n → (e i).1 ≤ 7 ∧ (e i).2.1 ≤ 1000000
variable {g n m i j q x : Nat} {l w D c : Int32} {ak aT av pk ps pe pv r1 r2 r3 r4 r5 : Nat → Int32} {e : Nat → ew_E}
theorem xa_open (H : ew_ev g n e ak aT av) (hi : i < n) {post : Int32 → Prop} (h1 : ew_op g e i → post 1) (h0 : ¬ ew_op g e i → post 0) : wpX_opensSession post (nI g, l, w, D, nI n, nI m, c, ak, aT, av, pk, ps, pe, pv, r1, r2, r3, r4, r5) (nI i) := by
  obtain ⟨hg, hg2, hn, hE, hb⟩ := H
  by_cases c : i = 0
  · subst c
    exact br_t nI_0 (h1 (Or.inl rfl))
  · have hc : ¬ nI i = 0 := nI_ne0 (by omega) (by omega)
    have e1 : nI i - 1 = nI (i - 1) := by
      obtain ⟨j, rfl⟩ : ∃ j, i = j + 1 := ⟨i - 1, by omega⟩
      exact nI_pred j
    have v1 : vp_in (nI i) 32 := vp_in_nI (by omega) (by omega)
    have v2 : vp_in (nI i - 1) 32 := by
      rw [e1]
      exact vp_in_nI (by omega) (by omega)
    have c1 : (nI i).toNatClampNeg = i := nI_clamp (by omega)
    have c2 : (nI i - 1).toNatClampNeg = i - 1 := by
      rw [e1]
      exact nI_clamp (by omega)
    obtain ⟨k1, t1, _⟩ := hE i hi
    obtain ⟨k2, t2, _⟩ := hE (i - 1) (by omega)
    have b1 := hb i hi
    have b2 := hb (i - 1) (by omega)
    refine br_f hc ⟨v1, v2, ?_⟩
    rw [c1, c2, k1, k2, t1, t2]
    refine ek_if (nI_eq (by omega) (by omega)) (fun hk => ⟨v1, v2, ?_⟩) (fun hk => h1 (Or.inr (Or.inl hk)))
    have hlt : (nI (e i).2.1 - nI (e (i - 1)).2.1 < nI g) ↔ (e i).2.1 < (e (i - 1)).2.1 + g := by
      rw [Int32.lt_iff_toInt_lt, pk_sub_toInt (by omega) (by omega), nI_toInt (by omega)]
      omega
    refine ek_if hlt (fun z => h0 ?_) (fun z => h1 (Or.inr (Or.inr (by omega))))
    unfold ew_op
    omega
theorem xa_past0 (H : ew_ev g n e ak aT av) (hb : ew_blk g e n i q) {post : Int32 → Prop} (hp : post (nI q)) : ∀ d x, x + d = q → i < x → wX_pastSession_4 post (nI g) l w D (nI n) (nI m) c ak aT av pk ps pe pv r1 r2 r3 r4 r5 (d + 1) (nI x) := by
  have hn := H.2.2.1
  have hq := hb.2.1
  intro d
  induction d with
  | zero =>
    intro x hx hi
    have hx' : x = q := by omega
    subst hx'
    by_cases c : x < n
    · exact br_f (nI_ge c (by omega)) (xa_open H c (fun _ => br_f ew_10 hp) (fun z => absurd (hb.2.2.2 c) z))
    · exact br_t (nI_le (by omega) (by omega)) hp
  | succ d ih =>
    intro x hx hi
    exact br_f (nI_ge (by omega) (by omega)) (xa_open H (by omega) (fun z => absurd z (hb.2.2.1 x hi (by omega))) (fun _ => br_t rfl (nm_r (nI_1 x) (ih (x + 1) (by omega) (by omega)))))
theorem xa_past (H : ew_ev g n e ak aT av) (hb : ew_blk g e n i q) {post : Int32 → Prop} (hp : post (nI q)) : wpX_pastSession post (nI g, l, w, D, nI n, nI m, c, ak, aT, av, pk, ps, pe, pv, r1, r2, r3, r4, r5) (nI i) := by
  have := hb.1
  exact nm_r (nI_1 i) ⟨q - (i + 1) + 1, xa_past0 H hb hp (q - (i + 1)) (i + 1) (by omega) (by omega)⟩
theorem ew_q1 {q : Nat} (h : 0 < q) : nI q - 1 = nI (q - 1) := by
  obtain ⟨j, rfl⟩ : ∃ j, q = j + 1 := ⟨q - 1, by omega⟩
  exact nI_pred j
theorem xa_end (H : ew_ev g n e ak aT av) (hb : ew_blk g e n i q) {post : Int32 → Prop} (hp : post (nI ((e (q - 1)).2.1 + g))) : wpX_endOfSession post (nI g, l, w, D, nI n, nI m, c, ak, aT, av, pk, ps, pe, pv, r1, r2, r3, r4, r5) (nI i) := by
  have h1 := hb.1
  have h2 := hb.2.1
  have h3 := H.2.2.1
  have e1 := ew_q1 (show 0 < q by omega)
  refine xa_past H hb ⟨?_, ?_⟩
  · rw [e1]
    exact vp_in_nI (by omega) (by omega)
  · rw [e1, nI_clamp (by omega), (H.2.2.2.1 (q - 1) (by omega)).2.1, nI_add]
    exact hp
theorem xa_sum0 (H : ew_ev g n e ak aT av) (hq : q ≤ n) {post : Int32 → Prop} (hp : post (ew_su (ew_in i q) (fun j => (e j).2.2) q)) : ∀ d x, x + d = q → i ≤ x → wX_sumOfSession_11 post (nI q) (nI g) l w D (nI n) (nI m) c ak aT av pk ps pe pv r1 r2 r3 r4 r5 (d + 1) (ew_su (ew_in i q) (fun j => (e j).2.2) x) (nI x) := by
  have hn := H.2.2.1
  intro d
  induction d with
  | zero =>
    intro x hx hi
    have hx' : x = q := by omega
    subst hx'
    exact br_t (nI_le (by omega) (by omega)) hp
  | succ d ih =>
    intro x hx hi
    refine br_f (nI_ge (by omega) (by omega)) ⟨vp_in_nI (by omega) (by omega), nm_r (e' := ew_su (ew_in i q) (fun j => (e j).2.2) (x + 1)) ?_ (nm_r (nI_1 x) (ih (x + 1) (by omega) (by omega)))⟩
    rw [nI_clamp (by omega), (H.2.2.2.1 x (by omega)).2.2, ew_su, if_pos (ew_inI.mpr ⟨hi, by omega⟩)]
theorem xa_sum (H : ew_ev g n e ak aT av) (hb : ew_blk g e n i q) {post : Int32 → Prop} (hp : post (ew_su (ew_in i q) (fun j => (e j).2.2) q)) : wpX_sumOfSession post (nI g, l, w, D, nI n, nI m, c, ak, aT, av, pk, ps, pe, pv, r1, r2, r3, r4, r5) (nI i) := by
  have h1 := hb.1
  refine xa_past H hb ⟨q - i + 1, ?_⟩
  have := xa_sum0 (l := l) (w := w) (D := D) (m := m) (c := c) (pk := pk) (ps := ps) (pe := pe) (pv := pv) (r1 := r1) (r2 := r2) (r3 := r3) (r4 := r4) (r5 := r5) H hb.2.1 hp (q - i) i (by omega) (Nat.le_refl _)
  rw [ew_su_0 _ i (Nat.le_refl _)] at this
  exact this
theorem xa_first0 (H : ew_ev g n e ak aT av) {post : Int32 → Prop} (hx : x < n) (hp : ∀ i, i ≤ x → ew_op g e i → (∀ j, i < j → j ≤ x → ¬ ew_op g e j) → post (nI i)) : ∀ y, y ≤ x → (∀ j, y < j → j ≤ x → ¬ ew_op g e j) → wX_firstOfSession_2 post (nI g) l w D (nI n) (nI m) c ak aT av pk ps pe pv r1 r2 r3 r4 r5 (y + 1) (nI y) := by
  have hn := H.2.2.1
  intro y
  induction y with
  | zero =>
    intro h1 h2
    exact br_t (nI_le (b := 0) (Nat.le_refl 0) (by omega)) (hp 0 h1 (Or.inl rfl) h2)
  | succ y ih =>
    intro h1 h2
    refine br_f (nI_nle (by omega) (by omega)) (xa_open H (by omega) (fun ho => br_f ew_10 (hp (y + 1) h1 ho h2)) (fun ho => br_t rfl (nm_r (pk_m1 y) (ih (by omega) ?_))))
    intro j a b
    by_cases c : j = y + 1
    · subst c
      exact ho
    · exact h2 j (by omega) b
theorem xa_first (H : ew_ev g n e ak aT av) {post : Int32 → Prop} (hx : x < n) (hp : ∀ i, i ≤ x → ew_op g e i → (∀ j, i < j → j ≤ x → ¬ ew_op g e j) → post (nI i)) : wpX_firstOfSession post (nI g, l, w, D, nI n, nI m, c, ak, aT, av, pk, ps, pe, pv, r1, r2, r3, r4, r5) (nI x) :=
  ⟨x + 1, xa_first0 H hx hp x (Nat.le_refl _) (fun j a b => by omega)⟩
theorem xa_sc0 (H : ew_ev g n e ak aT av) {post : Int32 → Prop} (hp : post (nI (ew_xl g e n).length)) : ∀ d x, x + d = n → wX_sessionCount_4 post (nI g) l w D (nI n) (nI m) c ak aT av pk ps pe pv r1 r2 r3 r4 r5 (d + 1) (nI (ew_xl g e x).length) (nI x) := by
  have hn := H.2.2.1
  intro d
  induction d with
  | zero =>
    intro x hx
    have hx' : x = n := by omega
    subst hx'
    exact br_t (nI_le (by omega) (by omega)) hp
  | succ d ih =>
    intro x hx
    refine br_f (nI_ge (by omega) (by omega)) (xa_open H (by omega) (fun ho => br_f ew_10 (nm_r (e' := nI (ew_xl g e (x + 1)).length) ?_ (nm_r (nI_1 x) (ih (x + 1) (by omega))))) (fun ho => br_t rfl (nm_r (nI_1 x) ?_)))
    · rw [nI_1, ew_xl_y ho, List.length_append]
      rfl
    · have := ih (x + 1) (by omega)
      rw [ew_xl_n ho] at this
      exact this
theorem xa_sc (H : ew_ev g n e ak aT av) {post : Int32 → Prop} (hp : post (nI (ew_xl g e n).length)) : wpX_sessionCount post (nI g, l, w, D, nI n, nI m, c, ak, aT, av, pk, ps, pe, pv, r1, r2, r3, r4, r5) :=
  ⟨n + 1, xa_sc0 H hp n 0 (by omega)⟩
/-- the session at a place, or none -/
theorem xa_at0 (H : ew_ev g n e ak aT av) {post : Int32 → Prop} {z : Int32} (hp : ∀ i, i < n → ew_op g e i → z = nI (ew_xl g e i).length → post (nI i)) (hn0 : (∀ i, i < n → ew_op g e i → z ≠ nI (ew_xl g e i).length) → post (nI n)) :
    ∀ d x, x + d = n → (∀ i, i < x → ew_op g e i → z ≠ nI (ew_xl g e i).length) → wX_firstOfSessionAt_4 post z (nI g) l w D (nI n) (nI m) c ak aT av pk ps pe pv r1 r2 r3 r4 r5 (d + 1) (nI (ew_xl g e x).length) (nI x) := by
  have hn := H.2.2.1
  intro d
  induction d with
  | zero =>
    intro x hx hz
    have hx' : x = n := by omega
    subst hx'
    exact br_t (nI_le (by omega) (by omega)) (hn0 hz)
  | succ d ih =>
    intro x hx hz
    refine br_f (nI_ge (by omega) (by omega)) (xa_open H (by omega) (fun ho => br_f ew_10 (br_c (fun hq => hp x (by omega) ho hq.symm) (fun hq => nm_r (e' := nI (ew_xl g e (x + 1)).length) ?_ (nm_r (nI_1 x) (ih (x + 1) (by omega) ?_))))) (fun ho => br_t rfl (nm_r (nI_1 x) ?_)))
    · rw [nI_1, ew_xl_y ho, List.length_append]
      rfl
    · intro i a b
      by_cases f : i = x
      · subst f
        exact fun z => hq z.symm
      · exact hz i (by omega) b
    · have := ih (x + 1) (by omega) (fun i a b => by
        by_cases f : i = x
        · subst f
          exact absurd b ho
        · exact hz i (by omega) b)
      rw [ew_xl_n ho] at this
      exact this
theorem xa_at (H : ew_ev g n e ak aT av) {post : Int32 → Prop} {z : Int32} (hp : ∀ i, i < n → ew_op g e i → z = nI (ew_xl g e i).length → post (nI i)) (hn0 : (∀ i, i < n → ew_op g e i → z ≠ nI (ew_xl g e i).length) → post (nI n)) : wpX_firstOfSessionAt post (nI g, l, w, D, nI n, nI m, c, ak, aT, av, pk, ps, pe, pv, r1, r2, r3, r4, r5) z :=
  ⟨n + 1, xa_at0 H hp hn0 n 0 (by omega) (fun i a => by omega)⟩
end
end
section
/-! X: panes and records -/
section
def ew_xb (y : ew_P) : Prop := y.1 ≤ 7 ∧ y.2.1 ≤ 1001000 ∧ y.2.2.1 ≤ 1001000
def ew_at (j : Nat) (y : ew_P) (pk ps pe pv : Nat → Int32) : Prop := pk j = nI y.1 ∧ ps j = nI y.2.1 ∧ pe j = nI y.2.2.1 ∧ pv j = y.2.2.2
theorem ew_at_s {k : Nat} {y : ew_P} {pk ps pe pv : Nat → Int32} {a b d f : Int32} (h1 : a = nI y.1) (h2 : b = nI y.2.1) (h3 : d = nI y.2.2.1) (h4 : f = y.2.2.2) : ew_at k y (upd pk k a) (upd ps k b) (upd pe k d) (upd pv k f) :=
  ⟨pk_us.trans h1, pk_us.trans h2, pk_us.trans h3, pk_us.trans h4⟩
theorem ew_at_n {j k : Nat} {y : ew_P} {pk ps pe pv : Nat → Int32} {a b d f : Int32} (hj : j ≠ k) (h : ew_at j y pk ps pe pv) : ew_at j y (upd pk k a) (upd ps k b) (upd pe k d) (upd pv k f) :=
  ⟨(pk_un hj).trans h.1, (pk_un hj).trans h.2.1, (pk_un hj).trans h.2.2.1, (pk_un hj).trans h.2.2.2⟩
variable {g n m i j q x k : Nat} {l w D c : Int32} {ak aT av pk ps pe pv r1 r2 r3 r4 r5 : Nat → Int32} {p : Nat → ew_P} {s y : ew_P} {R : ew_R}
theorem xp_bel (hi : i < 32) (h : ew_at i y pk ps pe pv) (hy : ew_xb y) (hs : ew_xb s) {post : Int32 → Prop} (h1 : ew_bl s y → post 1) (h0 : ¬ ew_bl s y → post 0) : wpX_paneBelongs post (nI g, l, w, D, nI n, nI m, c, ak, aT, av, pk, ps, pe, pv, r1, r2, r3, r4, r5) (nI i) (nI s.1) (nI s.2.1) (nI s.2.2.1) := by
  have v1 : vp_in (nI i) 32 := vp_in_nI hi (by omega)
  have c1 : (nI i).toNatClampNeg = i := nI_clamp (by omega)
  obtain ⟨a1, a2, a3, _⟩ := h
  obtain ⟨b1, b2, b3⟩ := hy
  obtain ⟨d1, d2, d3⟩ := hs
  refine ⟨v1, ?_⟩
  rw [c1, a1, a2, a3]
  refine ek_if (nI_eq (by omega) (by omega)) (fun z1 => ⟨v1, ek_if (nI_ltI (by omega) (by omega)) (fun z2 => h0 (fun z => ?_)) (fun z2 => ⟨v1, ek_if (nI_ltI (by omega) (by omega)) (fun z3 => h0 (fun z => ?_)) (fun z3 => h1 ⟨z1, by omega, by omega⟩)⟩)⟩) (fun z1 => h0 (fun z => z1 z.1))
  · have := z.2.1
    omega
  · have := z.2.2
    omega
theorem xp_aft (hi : i < 32) (h : ew_at i y pk ps pe pv) (hy : ew_xb y) (hs : ew_xb s) {post : Int32 → Prop} (h1 : ew_pl s y → post 1) (h0 : ¬ ew_pl s y → post 0) : wpX_paneComesAfter post (nI g, l, w, D, nI n, nI m, c, ak, aT, av, pk, ps, pe, pv, r1, r2, r3, r4, r5) (nI i) (nI s.1) (nI s.2.1) := by
  have v1 : vp_in (nI i) 32 := vp_in_nI hi (by omega)
  have c1 : (nI i).toNatClampNeg = i := nI_clamp (by omega)
  obtain ⟨a1, a2, a3, _⟩ := h
  obtain ⟨b1, b2, b3⟩ := hy
  obtain ⟨d1, d2, d3⟩ := hs
  have e1 : ew_pl s y ↔ (s.1 < y.1 ∨ (s.1 = y.1 ∧ s.2.1 < y.2.1)) := Iff.rfl
  refine ⟨v1, ?_⟩
  rw [c1, a1, a2]
  refine ek_if (nI_ltI (by omega) (by omega)) (fun z1 => h1 (e1.mpr (by omega))) (fun z1 => ⟨v1, ek_if (nI_eq (by omega) (by omega)) (fun z2 => ⟨v1, ek_if (nI_leI (by omega) (by omega)) (fun z3 => h0 (fun z => ?_)) (fun z3 => h1 (e1.mpr (by omega)))⟩) (fun z2 => h0 (fun z => ?_))⟩)
  · have := e1.mp z
    omega
  · have := e1.mp z
    omega
theorem xp_emit {kd a b d f : Int32} {post : St2 → Prop} (h : post (nI g, l, w, D, nI n, nI m, (ew_em R kd a b d f).2.2.2.2.2, ak, aT, av, pk, ps, pe, pv, (ew_em R kd a b d f).1, (ew_em R kd a b d f).2.1, (ew_em R kd a b d f).2.2.1, (ew_em R kd a b d f).2.2.2.1, (ew_em R kd a b d f).2.2.2.2.1)) : wpX_emit post (nI g, l, w, D, nI n, nI m, R.2.2.2.2.2, ak, aT, av, pk, ps, pe, pv, R.1, R.2.1, R.2.2.1, R.2.2.2.1, R.2.2.2.2.1) kd a b d f := by
  have v : vp_in (R.2.2.2.2.2 &&& 63) 64 := pk_andIn _ 6 (by decide) (by decide)
  exact nm_e ⟨v, nm_e ⟨v, nm_e ⟨v, nm_e ⟨v, nm_e ⟨v, nm_e (nm_e h)⟩⟩⟩⟩⟩
theorem xp_move (hi : i < 32) (hj : j < 32) {post : St2 → Prop} (h : post (nI g, l, w, D, nI n, nI m, c, ak, aT, av, upd pk j (pk i), upd ps j (ps i), upd pe j (pe i), upd pv j (pv i), r1, r2, r3, r4, r5)) : wpX_movePane post (nI g, l, w, D, nI n, nI m, c, ak, aT, av, pk, ps, pe, pv, r1, r2, r3, r4, r5) (nI i) (nI j) := by
  have vi : vp_in (nI i) 32 := vp_in_nI hi (by omega)
  have vj : vp_in (nI j) 32 := vp_in_nI hj (by omega)
  have ci : (nI i).toNatClampNeg = i := nI_clamp (by omega)
  have cj : (nI j).toNatClampNeg = j := nI_clamp (by omega)
  exact ⟨vi, vj, nm_r (e' := upd pk j (pk i)) (by rw [ci, cj]) ⟨vi, vj, nm_r (e' := upd ps j (ps i)) (by rw [ci, cj]) ⟨vi, vj, nm_r (e' := upd pe j (pe i)) (by rw [ci, cj]) ⟨vi, vj, nm_r (e' := upd pv j (pv i)) (by rw [ci, cj]) h⟩⟩⟩⟩
/-- the arrays hold the panes p -/
def ew_pa (m : Nat) (p : Nat → ew_P) (pk ps pe pv : Nat → Int32) : Prop := m ≤ 32 ∧ ∀ i, i < m → ew_at i (p i) pk ps pe pv ∧ ew_xb (p i)
theorem xp_rem0 (hm : m ≤ 32) (hp : ∀ i, i < m → ew_xb (p i)) (hs : ew_xb s) {post : St2 → Prop}
    (K : ∀ k pk ps pe pv q, ew_pa k q pk ps pe pv → ew_L q k = ew_N s (ew_L p m) → post (nI g, l, w, D, nI n, nI k, c, ak, aT, av, pk, ps, pe, pv, r1, r2, r3, r4, r5)) :
    ∀ d x k pk ps pe pv q, x + d = m → k ≤ x → ew_pa k q pk ps pe pv → (∀ j, x ≤ j → j < m → ew_at j (p j) pk ps pe pv) → ew_L q k = ew_N s (ew_L p x) → wX_removePanes_6 post (nI s.1) (nI s.2.1) (nI s.2.2.1) (d + 1) (nI k) (nI x) (nI g) l w D (nI n) (nI m) c ak aT av pk ps pe pv r1 r2 r3 r4 r5 := by
  intro d
  induction d with
  | zero =>
    intro x k pk ps pe pv q hx hk h1 h2 h3
    have hx' : x = m := by omega
    subst hx'
    exact br_t (nI_le (by omega) (by omega)) (K k pk ps pe pv q h1 h3)
  | succ d ih =>
    intro x k pk ps pe pv q hx hk h1 h2 h3
    have hx1 : x < m := by omega
    have ax := h2 x (Nat.le_refl _) hx1
    refine br_f (nI_ge (by omega) (by omega)) (xp_bel (by omega) ax (hp x hx1) hs (fun hb => br_f ew_10 (nm_r (nI_1 x) (ih (x + 1) k pk ps pe pv q (by omega) (by omega) h1 (fun j a b => h2 j (by omega) b) ?_))) (fun hb => br_t rfl (xp_move (by omega) (by omega) (nm_r (nI_1 k) (nm_r (nI_1 x) (ih (x + 1) (k + 1) _ _ _ _ (fun j => if j = k then p x else q j) (by omega) (by omega) ⟨by omega, fun j hj => ?_⟩ (fun j a b => ?_) ?_))))))
    · exact ew_cpn (P := fun y => ew_dc (¬ ew_bl s y)) h3 (fun z => (ew_dcI.mp z) hb)
    · dsimp only
      by_cases c : j = k
      · rw [if_pos c, c]
        exact ⟨ew_at_s ax.1 ax.2.1 ax.2.2.1 ax.2.2.2, hp x hx1⟩
      · rw [if_neg c]
        exact ⟨ew_at_n c (h1.2 j (by omega)).1, (h1.2 j (by omega)).2⟩
    · exact ew_at_n (by omega) (h2 j (by omega) b)
    · exact ew_cpy (P := fun y => ew_dc (¬ ew_bl s y)) h3 (ew_dcI.mpr hb)
theorem xp_rem (H : ew_pa m p pk ps pe pv) (hs : ew_xb s) {post : St2 → Prop}
    (K : ∀ k pk ps pe pv q, ew_pa k q pk ps pe pv → ew_L q k = ew_N s (ew_L p m) → post (nI g, l, w, D, nI n, nI k, c, ak, aT, av, pk, ps, pe, pv, r1, r2, r3, r4, r5)) : wpX_removePanes post (nI g, l, w, D, nI n, nI m, c, ak, aT, av, pk, ps, pe, pv, r1, r2, r3, r4, r5) (nI s.1) (nI s.2.1) (nI s.2.2.1) :=
  ⟨m + 1, xp_rem0 H.1 (fun i hi => (H.2 i hi).2) hs K m 0 0 pk ps pe pv p (by omega) (Nat.le_refl _) ⟨by omega, fun j hj => absurd hj (Nat.not_lt_zero j)⟩ (fun j _ hj => (H.2 j hj).1) rfl⟩
theorem xp_ret0 (H : ew_pa m p pk ps pe pv) (hs : ew_xb s) {post : St2 → Prop}
    (K : ∀ k pk ps pe pv q, ew_pa k q pk ps pe pv → ew_L q k = ew_N s (ew_L p m) → post (nI g, l, w, D, nI n, nI k, ((ew_B s (ew_L p m)).foldl ew_rt R).2.2.2.2.2, ak, aT, av, pk, ps, pe, pv, ((ew_B s (ew_L p m)).foldl ew_rt R).1, ((ew_B s (ew_L p m)).foldl ew_rt R).2.1, ((ew_B s (ew_L p m)).foldl ew_rt R).2.2.1, ((ew_B s (ew_L p m)).foldl ew_rt R).2.2.2.1, ((ew_B s (ew_L p m)).foldl ew_rt R).2.2.2.2.1)) :
    ∀ d x, x + d = m → wX_retractPanes_3 post (nI s.1) (nI s.2.1) (nI s.2.2.1) (d + 1) (nI x) (nI g) l w D (nI n) (nI m) ((ew_B s (ew_L p x)).foldl ew_rt R).2.2.2.2.2 ak aT av pk ps pe pv ((ew_B s (ew_L p x)).foldl ew_rt R).1 ((ew_B s (ew_L p x)).foldl ew_rt R).2.1 ((ew_B s (ew_L p x)).foldl ew_rt R).2.2.1 ((ew_B s (ew_L p x)).foldl ew_rt R).2.2.2.1 ((ew_B s (ew_L p x)).foldl ew_rt R).2.2.2.2.1 := by
  have hm := H.1
  intro d
  induction d with
  | zero =>
    intro x hx
    have hx' : x = m := by omega
    subst hx'
    exact br_t (nI_le (by omega) (by omega)) (xp_rem H hs K)
  | succ d ih =>
    intro x hx
    have hx1 : x < m := by omega
    have ax := (H.2 x hx1).1
    have v1 : vp_in (nI x) 32 := vp_in_nI (by omega) (by omega)
    have c1 : (nI x).toNatClampNeg = x := nI_clamp (by omega)
    have := ih (x + 1) (by omega)
    refine br_f (nI_ge (by omega) (by omega)) (xp_bel (by omega) ax (H.2 x hx1).2 hs (fun hb => br_f ew_10 ⟨v1, v1, v1, v1, ?_⟩) (fun hb => br_t rfl (nm_r (nI_1 x) ?_)))
    · have e1 : ew_B s (ew_L p (x + 1)) = ew_B s (ew_L p x) ++ [p x] := by
        unfold ew_B
        rw [ew_Ls, List.filter_append, List.filter_cons_of_pos (p := fun y => ew_dc (ew_bl s y)) (ew_dcI.mpr hb)]
        rfl
      rw [c1, ax.1, ax.2.1, ax.2.2.1, ax.2.2.2]
      refine xp_emit (nm_r (nI_1 x) ?_)
      rw [e1, List.foldl_append] at this
      exact this
    · have e1 : ew_B s (ew_L p (x + 1)) = ew_B s (ew_L p x) := by
        unfold ew_B
        rw [ew_Ls, List.filter_append, List.filter_cons_of_neg (p := fun y => ew_dc (ew_bl s y)) (fun z => hb (ew_dcI.mp z))]
        exact List.append_nil _
      rw [e1] at this
      exact this
theorem xp_ret (H : ew_pa m p pk ps pe pv) (hs : ew_xb s) {post : St2 → Prop}
    (K : ∀ k pk ps pe pv q, ew_pa k q pk ps pe pv → ew_L q k = ew_N s (ew_L p m) → post (nI g, l, w, D, nI n, nI k, ((ew_B s (ew_L p m)).foldl ew_rt R).2.2.2.2.2, ak, aT, av, pk, ps, pe, pv, ((ew_B s (ew_L p m)).foldl ew_rt R).1, ((ew_B s (ew_L p m)).foldl ew_rt R).2.1, ((ew_B s (ew_L p m)).foldl ew_rt R).2.2.1, ((ew_B s (ew_L p m)).foldl ew_rt R).2.2.2.1, ((ew_B s (ew_L p m)).foldl ew_rt R).2.2.2.2.1)) : wpX_retractPanes post (nI g, l, w, D, nI n, nI m, R.2.2.2.2.2, ak, aT, av, pk, ps, pe, pv, R.1, R.2.1, R.2.2.1, R.2.2.2.1, R.2.2.2.2.1) (nI s.1) (nI s.2.1) (nI s.2.2.1) :=
  ⟨m + 1, xp_ret0 H hs K m 0 (by omega)⟩
theorem xp_syn0 (H : ew_pa m p pk ps pe pv) (hs : ew_xb s) {post : Int32 → Prop} (h1 : ew_B s (ew_L p m) = [s] → post 1) (h0 : ¬ ew_B s (ew_L p m) = [s] → post 0) :
    ∀ d x, x + d = m → wX_isInSync_9 post (nI s.1) (nI s.2.1) (nI s.2.2.1) s.2.2.2 (nI g) l w D (nI n) (nI m) c ak aT av pk ps pe pv r1 r2 r3 r4 r5 (d + 1) (nI (ew_ct (fun i => ew_dc (ew_bl s (p i))) x)) (nI (ew_ct (fun i => ew_dc (ew_mt s (p i))) x)) (nI x) := by
  have hm := H.1
  intro d
  induction d with
  | zero =>
    intro x hx
    have hx' : x = m := by omega
    subst hx'
    have b1 := ew_ct_le (fun i => ew_dc (ew_bl s (p i))) x
    have b2 := ew_ct_le (fun i => ew_dc (ew_mt s (p i))) x
    have sy := ew_syncX (x := s) (List.Perm.refl (ew_L p x))
    refine br_t (nI_le (by omega) (by omega)) (ek_if (nI_eq (b := 1) (by omega) (by omega)) (fun z1 => ek_if (nI_eq (b := 1) (by omega) (by omega)) (fun z2 => h1 (sy.mpr ⟨z1, z2⟩)) (fun z2 => h0 (fun z => z2 (sy.mp z).2))) (fun z1 => h0 (fun z => z1 (sy.mp z).1)))
  | succ d ih =>
    intro x hx
    have hx1 : x < m := by omega
    have ax := (H.2 x hx1).1
    have bx := (H.2 x hx1).2
    have v1 : vp_in (nI x) 32 := vp_in_nI (by omega) (by omega)
    have c1 : (nI x).toNatClampNeg = x := nI_clamp (by omega)
    have IH := ih (x + 1) (by omega)
    obtain ⟨q1, q2, q3⟩ := bx
    obtain ⟨s1, s2, s3⟩ := id hs
    have no : ¬ ew_mt s (p x) → ew_ct (fun i => ew_dc (ew_mt s (p i))) (x + 1) = ew_ct (fun i => ew_dc (ew_mt s (p i))) x := fun z => by
      rw [ew_ct, if_neg (fun y => z (ew_dcI.mp y))]
    refine br_f (nI_ge (by omega) (by omega)) (xp_bel (by omega) ax (H.2 x hx1).2 hs (fun hb => br_f ew_10 (nm_r (e' := nI (ew_ct (fun i => ew_dc (ew_bl s (p i))) (x + 1))) ?_ ⟨v1, ?_⟩)) (fun hb => br_t rfl (nm_r (nI_1 x) ?_)))
    · rw [nI_1, ew_ct, if_pos (ew_dcI.mpr hb)]
    · rw [c1, ax.2.1, ax.2.2.1, ax.2.2.2]
      refine ek_if (nI_eq (by omega) (by omega)) (fun z1 => ⟨v1, ek_if (nI_eq (by omega) (by omega)) (fun z2 => ⟨v1, br_c (fun z3 => nm_r (e' := nI (ew_ct (fun i => ew_dc (ew_mt s (p i))) (x + 1))) ?_ (nm_r (nI_1 x) IH)) (fun z3 => nm_r (nI_1 x) ?_)⟩) (fun z2 => nm_r (nI_1 x) ?_)⟩) (fun z1 => nm_r (nI_1 x) ?_)
      · rw [nI_1, ew_ct, if_pos (ew_dcI.mpr ⟨hb, z1, z2, z3⟩)]
      · rw [no (fun z => z3 z.2.2.2)] at IH
        exact IH
      · rw [no (fun z => z2 z.2.2.1)] at IH
        exact IH
      · rw [no (fun z => z1 z.2.1)] at IH
        exact IH
    · rw [no (fun z => hb z.1), ew_ct, if_neg (fun z => hb (ew_dcI.mp z))] at IH
      exact IH
theorem xp_syn (H : ew_pa m p pk ps pe pv) (hs : ew_xb s) {post : Int32 → Prop} (h1 : ew_B s (ew_L p m) = [s] → post 1) (h0 : ¬ ew_B s (ew_L p m) = [s] → post 0) : wpX_isInSync post (nI g, l, w, D, nI n, nI m, c, ak, aT, av, pk, ps, pe, pv, r1, r2, r3, r4, r5) (nI s.1) (nI s.2.1) (nI s.2.2.1) s.2.2.2 :=
  ⟨m + 1, xp_syn0 H hs h1 h0 m 0 (by omega)⟩
end
end
section
/-! X: addPane, insertEvent, fire -/
section
variable {g n m i j q x k b : Nat} {l w D c : Int32} {ak aT av pk ps pe pv r1 r2 r3 r4 r5 : Nat → Int32} {p : Nat → ew_P} {s y : ew_P} {R : ew_R} {e : Nat → ew_E}
theorem xp_add1 (hb : b ≤ m) (hm : m < 32) (hp : ∀ i, i < m → ew_xb (p i)) (hs : ew_xb s) {post : St2 → Prop}
    (K : ∀ pk ps pe pv q, ew_pa (m + 1) q pk ps pe pv → ew_L q (m + 1) = ew_L (ew_put p s b) (m + 1) → post (nI g, l, w, D, nI n, nI (m + 1), c, ak, aT, av, pk, ps, pe, pv, r1, r2, r3, r4, r5))
    (h1 : ∀ j, j < b → ew_at j (p j) pk ps pe pv) (h2 : ∀ j, b < j → j ≤ m → ew_at j (p (j - 1)) pk ps pe pv) : wX_addPane_50 post (nI s.1) (nI s.2.1) (nI s.2.2.1) s.2.2.2 (nI b) (nI g) l w D (nI n) (nI m) c ak aT av pk ps pe pv r1 r2 r3 r4 r5 := by
  have v1 : vp_in (nI b) 32 := vp_in_nI (by omega) (by omega)
  have c1 : (nI b).toNatClampNeg = b := nI_clamp (by omega)
  refine ⟨v1, nm_r (e' := upd pk b (nI s.1)) (by rw [c1]) ⟨v1, nm_r (e' := upd ps b (nI s.2.1)) (by rw [c1]) ⟨v1, nm_r (e' := upd pe b (nI s.2.2.1)) (by rw [c1]) ⟨v1, nm_r (e' := upd pv b s.2.2.2) (by rw [c1]) (nm_r (nI_1 m) (K _ _ _ _ (ew_put p s b) ⟨by omega, fun j hj => ?_⟩ rfl))⟩⟩⟩⟩
  by_cases a : j < b
  · rw [ew_put_a a]
    exact ⟨ew_at_n (by omega) (h1 j a), hp j (by omega)⟩
  · by_cases d : j = b
    · rw [d, ew_put_b]
      exact ⟨ew_at_s rfl rfl rfl rfl, hs⟩
    · rw [ew_put_c (show b < j by omega)]
      exact ⟨ew_at_n d (h2 j (by omega) (by omega)), hp (j - 1) (by omega)⟩
theorem xp_add0 (hm : m < 32) (hp : ∀ i, i < m → ew_xb (p i)) (hs : ew_xb s) {post : St2 → Prop}
    (K : ∀ b pk ps pe pv q, b ≤ m → (∀ j, b ≤ j → j < m → ew_pl s (p j)) → (b = 0 ∨ ¬ ew_pl s (p (b - 1))) → ew_pa (m + 1) q pk ps pe pv → ew_L q (m + 1) = ew_L (ew_put p s b) (m + 1) → post (nI g, l, w, D, nI n, nI (m + 1), c, ak, aT, av, pk, ps, pe, pv, r1, r2, r3, r4, r5)) :
    ∀ b pk ps pe pv, b ≤ m → (∀ j, b ≤ j → j < m → ew_pl s (p j)) → (∀ j, j < b → ew_at j (p j) pk ps pe pv) → (∀ j, b < j → j ≤ m → ew_at j (p (j - 1)) pk ps pe pv) → wX_addPane_16 post (nI s.1) (nI s.2.1) (nI s.2.2.1) s.2.2.2 (b + 1) (nI b) (nI g) l w D (nI n) (nI m) c ak aT av pk ps pe pv r1 r2 r3 r4 r5 := by
  intro b
  induction b with
  | zero =>
    intro pk ps pe pv hb hl h1 h2
    exact br_t (nI_le (b := 0) (Nat.le_refl 0) (by omega)) (xp_add1 hb hm hp hs (fun pk ps pe pv q a1 a2 => K 0 pk ps pe pv q hb hl (Or.inl rfl) a1 a2) h1 h2)
  | succ b ih =>
    intro pk ps pe pv hb hl h1 h2
    have e1 : nI (b + 1) - 1 = nI b := nI_pred b
    have a1 := h1 b (by omega)
    refine br_f (nI_nle (by omega) (by omega)) ?_
    rw [e1]
    refine xp_aft (by omega) a1 (hp b (by omega)) hs (fun z => br_f ew_10 (xp_move (by omega) (by omega) (nm_r (pk_m1 b) (ih _ _ _ _ (by omega) (fun j u v => ?_) (fun j u => ew_at_n (by omega) (h1 j (by omega))) (fun j u v => ?_))))) (fun z => br_t rfl (xp_add1 hb hm hp hs (fun pk ps pe pv q d1 d2 => K (b + 1) pk ps pe pv q hb hl (Or.inr z) d1 d2) h1 h2))
    · by_cases f : j = b
      · subst f
        exact z
      · exact hl j (by omega) v
    · by_cases f : j = b + 1
      · subst f
        exact ew_at_s a1.1 a1.2.1 a1.2.2.1 a1.2.2.2
      · exact ew_at_n f (h2 j (by omega) v)
theorem xp_add (H : ew_pa m p pk ps pe pv) (hs : ew_xb s) (hsr : (ew_L p m).Pairwise ew_pl) (hne : ∀ y, y ∈ ew_L p m → ew_pk y ≠ ew_pk s) {post : St2 → Prop}
    (K : ∀ k pk ps pe pv q, ew_pa k q pk ps pe pv → ew_L q k = (if (ew_L p m).length < 32 then ew_ins s (ew_L p m) else ew_L p m) → post (nI g, l, w, D, nI n, nI k, c, ak, aT, av, pk, ps, pe, pv, r1, r2, r3, r4, r5)) : wpX_addPane post (nI g, l, w, D, nI n, nI m, c, ak, aT, av, pk, ps, pe, pv, r1, r2, r3, r4, r5) (nI s.1) (nI s.2.1) (nI s.2.2.1) s.2.2.2 := by
  have hm := H.1
  rw [ew_Ll] at K
  refine ek_if (nI_ltI (b := 32) (by omega) (by omega)) (fun z => ⟨m + 1, ?_⟩) (fun z => ?_)
  · refine xp_add0 z (fun i hi => (H.2 i hi).2) hs (fun b pk ps pe pv q h1 h2 h3 h4 h5 => K (m + 1) pk ps pe pv q h4 ?_) m pk ps pe pv (Nat.le_refl _) (fun j u v => by omega) (fun j u => (H.2 j u).1) (fun j u v => by omega)
    rw [if_pos z, h5]
    exact ew_put_l hsr h1 h2 h3 hne
  · refine K m pk ps pe pv p H ?_
    rw [if_neg z]
def ew_ae (j : Nat) (y : ew_E) (ak aT av : Nat → Int32) : Prop := ak j = nI y.1 ∧ aT j = nI y.2.1 ∧ av j = y.2.2
theorem ew_ae_s {k : Nat} {y : ew_E} {ak aT av : Nat → Int32} {a b d : Int32} (h1 : a = nI y.1) (h2 : b = nI y.2.1) (h3 : d = y.2.2) : ew_ae k y (upd ak k a) (upd aT k b) (upd av k d) :=
  ⟨pk_us.trans h1, pk_us.trans h2, pk_us.trans h3⟩
theorem ew_ae_n {j k : Nat} {y : ew_E} {ak aT av : Nat → Int32} {a b d : Int32} (hj : j ≠ k) (h : ew_ae j y ak aT av) : ew_ae j y (upd ak k a) (upd aT k b) (upd av k d) :=
  ⟨(pk_un hj).trans h.1, (pk_un hj).trans h.2.1, (pk_un hj).trans h.2.2⟩
theorem xe_move (hi : i < 32) (hj : j < 32) {post : St2 → Prop} (h : post (nI g, l, w, D, nI n, nI m, c, upd ak j (ak i), upd aT j (aT i), upd av j (av i), pk, ps, pe, pv, r1, r2, r3, r4, r5)) : wpX_moveEvent post (nI g, l, w, D, nI n, nI m, c, ak, aT, av, pk, ps, pe, pv, r1, r2, r3, r4, r5) (nI i) (nI j) := by
  have vi : vp_in (nI i) 32 := vp_in_nI hi (by omega)
  have vj : vp_in (nI j) 32 := vp_in_nI hj (by omega)
  have ci : (nI i).toNatClampNeg = i := nI_clamp (by omega)
  have cj : (nI j).toNatClampNeg = j := nI_clamp (by omega)
  exact ⟨vi, vj, nm_r (e' := upd ak j (ak i)) (by rw [ci, cj]) ⟨vi, vj, nm_r (e' := upd aT j (aT i)) (by rw [ci, cj]) ⟨vi, vj, nm_r (e' := upd av j (av i)) (by rw [ci, cj]) h⟩⟩⟩
def ew_ela (s y : ew_E) : Prop := s.1 < y.1 ∨ (s.1 = y.1 ∧ s.2.1 < y.2.1)
def ew_eb (y : ew_E) : Prop := y.1 ≤ 7 ∧ y.2.1 ≤ 1000000
theorem xe_aft {s y : ew_E} (hi : i < 32) (h : ew_ae i y ak aT av) (hy : ew_eb y) (hs : ew_eb s) {post : Int32 → Prop} (h1 : ew_ela s y → post 1) (h0 : ¬ ew_ela s y → post 0) : wpX_eventComesAfter post (nI g, l, w, D, nI n, nI m, c, ak, aT, av, pk, ps, pe, pv, r1, r2, r3, r4, r5) (nI i) (nI s.1) (nI s.2.1) := by
  have v1 : vp_in (nI i) 32 := vp_in_nI hi (by omega)
  have c1 : (nI i).toNatClampNeg = i := nI_clamp (by omega)
  obtain ⟨a1, a2, _⟩ := h
  obtain ⟨b1, b2⟩ := hy
  obtain ⟨d1, d2⟩ := hs
  have e1 : ew_ela s y ↔ (s.1 < y.1 ∨ (s.1 = y.1 ∧ s.2.1 < y.2.1)) := Iff.rfl
  refine ⟨v1, ?_⟩
  rw [c1, a1, a2]
  refine ek_if (nI_ltI (by omega) (by omega)) (fun z1 => h1 (e1.mpr (by omega))) (fun z1 => ⟨v1, ek_if (nI_eq (by omega) (by omega)) (fun z2 => ⟨v1, ek_if (nI_leI (by omega) (by omega)) (fun z3 => h0 (fun z => ?_)) (fun z3 => h1 (e1.mpr (by omega)))⟩) (fun z2 => h0 (fun z => ?_))⟩)
  · have := e1.mp z
    omega
  · have := e1.mp z
    omega
theorem xe_ins1 {s : ew_E} (hb : b ≤ n) (hn : n < 32) {post : Int32 → St2 → Prop}
    (K : ∀ ak aT av, ew_aE (n + 1) (ew_put e s b) ak aT av → post (nI b) (nI g, l, w, D, nI (n + 1), nI m, c, ak, aT, av, pk, ps, pe, pv, r1, r2, r3, r4, r5))
    (h1 : ∀ j, j < b → ew_ae j (e j) ak aT av) (h2 : ∀ j, b < j → j ≤ n → ew_ae j (e (j - 1)) ak aT av) : wX_insertEvent_40 post (nI s.1) (nI s.2.1) s.2.2 (nI b) (nI g) l w D (nI n) (nI m) c ak aT av pk ps pe pv r1 r2 r3 r4 r5 := by
  have v1 : vp_in (nI b) 32 := vp_in_nI (by omega) (by omega)
  have c1 : (nI b).toNatClampNeg = b := nI_clamp (by omega)
  refine ⟨v1, nm_r (e' := upd ak b (nI s.1)) (by rw [c1]) ⟨v1, nm_r (e' := upd aT b (nI s.2.1)) (by rw [c1]) ⟨v1, nm_r (e' := upd av b s.2.2) (by rw [c1]) (nm_r (nI_1 n) (K _ _ _ (fun j hj => ?_)))⟩⟩⟩
  by_cases a : j < b
  · rw [ew_put_a a]
    exact ew_ae_n (by omega) (h1 j a)
  · by_cases d : j = b
    · rw [d, ew_put_b]
      exact ew_ae_s rfl rfl rfl
    · rw [ew_put_c (show b < j by omega)]
      exact ew_ae_n d (h2 j (by omega) (by omega))
theorem xe_ins0 {s : ew_E} (hn : n < 32) (hp : ∀ i, i < n → ew_eb (e i)) (hs : ew_eb s) {post : Int32 → St2 → Prop}
    (K : ∀ b ak aT av, b ≤ n → (∀ j, b ≤ j → j < n → ew_ela s (e j)) → (b = 0 ∨ ¬ ew_ela s (e (b - 1))) → ew_aE (n + 1) (ew_put e s b) ak aT av → post (nI b) (nI g, l, w, D, nI (n + 1), nI m, c, ak, aT, av, pk, ps, pe, pv, r1, r2, r3, r4, r5)) :
    ∀ b ak aT av, b ≤ n → (∀ j, b ≤ j → j < n → ew_ela s (e j)) → (∀ j, j < b → ew_ae j (e j) ak aT av) → (∀ j, b < j → j ≤ n → ew_ae j (e (j - 1)) ak aT av) → wX_insertEvent_6 post (nI s.1) (nI s.2.1) s.2.2 (b + 1) (nI b) (nI g) l w D (nI n) (nI m) c ak aT av pk ps pe pv r1 r2 r3 r4 r5 := by
  intro b
  induction b with
  | zero =>
    intro ak aT av hb hl h1 h2
    exact br_t (nI_le (b := 0) (Nat.le_refl 0) (by omega)) (xe_ins1 hb hn (fun ak aT av a1 => K 0 ak aT av hb hl (Or.inl rfl) a1) h1 h2)
  | succ b ih =>
    intro ak aT av hb hl h1 h2
    have e1 : nI (b + 1) - 1 = nI b := nI_pred b
    have a1 := h1 b (by omega)
    refine br_f (nI_nle (by omega) (by omega)) ?_
    rw [e1]
    refine xe_aft (by omega) a1 (hp b (by omega)) hs (fun z => br_f ew_10 (xe_move (by omega) (by omega) (nm_r (pk_m1 b) (ih _ _ _ (by omega) (fun j u v => ?_) (fun j u => ew_ae_n (by omega) (h1 j (by omega))) (fun j u v => ?_))))) (fun z => br_t rfl (xe_ins1 hb hn (fun ak aT av d1 => K (b + 1) ak aT av hb hl (Or.inr z) d1) h1 h2))
    · by_cases f : j = b
      · subst f
        exact z
      · exact hl j (by omega) v
    · by_cases f : j = b + 1
      · subst f
        exact ew_ae_s a1.1 a1.2.1 a1.2.2
      · exact ew_ae_n f (h2 j (by omega) v)
theorem xe_ins {s : ew_E} (H : ew_ev g n e ak aT av) (hn : n < 32) (hs : ew_eb s) {post : Int32 → St2 → Prop}
    (K : ∀ b ak aT av, b ≤ n → (∀ j, b ≤ j → j < n → ew_ela s (e j)) → (b = 0 ∨ ¬ ew_ela s (e (b - 1))) → ew_aE (n + 1) (ew_put e s b) ak aT av → post (nI b) (nI g, l, w, D, nI (n + 1), nI m, c, ak, aT, av, pk, ps, pe, pv, r1, r2, r3, r4, r5)) : wpX_insertEvent post (nI g, l, w, D, nI n, nI m, c, ak, aT, av, pk, ps, pe, pv, r1, r2, r3, r4, r5) (nI s.1) (nI s.2.1) s.2.2 :=
  ⟨n + 1, xe_ins0 hn H.2.2.2.2 hs K n ak aT av (Nat.le_refl _) (fun j u v => by omega) (fun j u => H.2.2.2.1 j u) (fun j u v => by omega)⟩
/-- firing, as X does it -/
theorem xa_fire {kd : Int32} (H : ew_ev g n e ak aT av) (Hs : ew_srt e n) (HP : ew_pa m p pk ps pe pv) (HG : ew_G g (ew_L e n) (ew_L p m)) (hi : i < n) (ho : ew_op g e i) {post : St2 → Prop}
    (K : ∀ k pk ps pe pv q R', ew_pa k q pk ps pe pv → (ew_L q k, R') = ew_fi kd (ew_L p m, R) (ew_ss g (ew_L e n) ((e i).1, (e i).2.1)) → post (nI g, l, w, D, nI n, nI k, R'.2.2.2.2.2, ak, aT, av, pk, ps, pe, pv, R'.1, R'.2.1, R'.2.2.1, R'.2.2.2.1, R'.2.2.2.2.1)) : wpX_fire post (nI g, l, w, D, nI n, nI m, R.2.2.2.2.2, ak, aT, av, pk, ps, pe, pv, R.1, R.2.1, R.2.2.1, R.2.2.2.1, R.2.2.2.2.1) (nI i) kd := by
  obtain ⟨hg, hg2, hn, hE, hb⟩ := id H
  obtain ⟨q, B⟩ := ew_bx (g := g) (e := e) hi
  have B1 := B.1
  have B2 := B.2.1
  have v1 : vp_in (nI i) 32 := vp_in_nI (by omega) (by omega)
  have c1 : (nI i).toNatClampNeg = i := nI_clamp (by omega)
  have O := ew_opO Hs hi ho
  obtain ⟨S1, _⟩ := ew_sX Hs hg ho B
  have hs : ew_xb (ew_ss g (ew_L e n) ((e i).1, (e i).2.1)) := by
    rw [S1]
    have b1 := hb i hi
    have b2 := hb (q - 1) (by omega)
    refine ⟨b1.1, ?_, ?_⟩ <;> dsimp only <;> omega
  have hne : ∀ y, y ∈ ew_N (ew_ss g (ew_L e n) ((e i).1, (e i).2.1)) (ew_L p m) → ew_pk y ≠ ew_pk (ew_ss g (ew_L e n) ((e i).1, (e i).2.1)) := by
    intro y hy z
    obtain ⟨y1, y2⟩ := ew_N_m.mp hy
    exact y2 (ew_same O (HG.2.1 y y1) (congrArg Prod.fst z) (congrArg Prod.snd z))
  have hNp := ew_N_p (ew_ss g (ew_L e n) ((e i).1, (e i).2.1)) HG.1
  have Fy := ew_fi_y (kind := kd) (st := (ew_L p m, R)) (x := ew_ss g (ew_L e n) ((e i).1, (e i).2.1))
  have Fn := ew_fi_n (kind := kd) (st := (ew_L p m, R)) (x := ew_ss g (ew_L e n) ((e i).1, (e i).2.1))
  refine ⟨v1, nm_r (e' := nI (e i).1) (by rw [c1, (hE i hi).1]) ⟨v1, nm_r (e' := nI (e i).2.1) (by rw [c1, (hE i hi).2.1]) ?_⟩⟩
  refine xa_end H B ?_
  refine xa_sum H B ?_
  rw [S1] at hs hne hNp Fy Fn K
  refine xp_syn (s := ((e i).1, (e i).2.1, (e (q - 1)).2.1 + g, ew_su (ew_in i q) (fun j => (e j).2.2) q)) HP hs (fun z => br_f ew_10 ?_) (fun z => br_t rfl ?_)
  · exact K m pk ps pe pv p R HP (Fy z).symm
  · refine xp_ret HP hs (fun k pk ps pe pv q' h1 h2 => xp_emit ?_)
    refine xp_add h1 hs (by rw [h2]; exact hNp) (by rw [h2]; exact hne) (fun k2 pk ps pe pv q2 h3 h4 => ?_)
    refine K k2 pk ps pe pv q2 _ h3 ?_
    rw [Fn z, h4, h2]
end
end
section
/-! X: expiring, advancing, firing early, adding -/
section
variable {g n m i j q x k b y lt W : Nat} {l w D c0 : Int32} {ak aT av pk ps pe pv r1 r2 r3 r4 r5 : Nat → Int32} {p : Nat → ew_P} {s : ew_P} {R : ew_R} {e c : Nat → ew_E}
theorem xe_shift0 {nc : Nat} (hn : nc ≤ 32) (hiq : i < q) {post : St2 → Prop}
    (K : ∀ k ak aT av f, ew_aE k f ak aT av → ew_L f k = ew_L c i ++ ew_L (fun j => c (q + j)) (nc - q) → post (nI g, l, w, D, nI k, nI m, c0, ak, aT, av, pk, ps, pe, pv, r1, r2, r3, r4, r5)) :
    ∀ d x k ak aT av f, x + d = nc → q ≤ x → k = i + (x - q) → ew_aE k f ak aT av → (∀ j, x ≤ j → j < nc → ew_ae j (c j) ak aT av) → ew_L f k = ew_L c i ++ ew_L (fun j => c (q + j)) (x - q) → wX_expire_43 post (d + 1) (nI k) (nI x) (nI g) l w D (nI nc) (nI m) c0 ak aT av pk ps pe pv r1 r2 r3 r4 r5 := by
  intro d
  induction d with
  | zero =>
    intro x k ak aT av f hx hq hk h1 h2 h3
    have hx' : x = nc := by omega
    subst hx'
    exact br_t (nI_le (by omega) (by omega)) (K k ak aT av f h1 h3)
  | succ d ih =>
    intro x k ak aT av f hx hq hk h1 h2 h3
    have ax := h2 x (Nat.le_refl _) (by omega)
    refine br_f (nI_ge (by omega) (by omega)) (xe_move (by omega) (by omega) (nm_r (nI_1 k) (nm_r (nI_1 x) (ih (x + 1) (k + 1) _ _ _ (fun j => if j = k then c x else f j) (by omega) (by omega) (by omega) (fun j hj => ?_) (fun j a b => ?_) ?_))))
    · dsimp only
      by_cases z : j = k
      · rw [if_pos z, z]
        exact ew_ae_s ax.1 ax.2.1 ax.2.2
      · rw [if_neg z]
        exact ew_ae_n z (h1 j (by omega))
    · exact ew_ae_n (by omega) (h2 j (by omega) b)
    · have e1 : ew_L (fun j => if j = k then c x else f j) k = ew_L f k := ew_Lc (fun j hj => if_neg (by omega))
      rw [ew_Ls, if_pos rfl, e1, h3, show x + 1 - q = (x - q) + 1 by omega, ew_Ls, show q + (x - q) = x by omega, List.append_assoc]
theorem xa_exp {nc : Nat} (H : ew_ev g nc c ak aT av) (HP : ew_pa m p pk ps pe pv) (B : ew_blk g c nc i q) (hs : ew_xb s) (s1 : s.1 = (c i).1) (s2 : s.2.1 = (c i).2.1) (s3 : s.2.2.1 = (c (q - 1)).2.1 + g) {post : St2 → Prop}
    (K : ∀ k ak aT av f m' pk ps pe pv p', ew_aE k f ak aT av → ew_L f k = ew_L c i ++ ew_L (fun j => c (q + j)) (nc - q) → ew_pa m' p' pk ps pe pv → ew_L p' m' = ew_N s (ew_L p m) → post (nI g, l, w, D, nI k, nI m', c0, ak, aT, av, pk, ps, pe, pv, r1, r2, r3, r4, r5)) : wpX_expire post (nI g, l, w, D, nI nc, nI m, c0, ak, aT, av, pk, ps, pe, pv, r1, r2, r3, r4, r5) (nI i) := by
  obtain ⟨hg, hg2, hn, hE, hb⟩ := id H
  have B1 := B.1
  have B2 := B.2.1
  have v1 : vp_in (nI i) 32 := vp_in_nI (by omega) (by omega)
  have c1 : (nI i).toNatClampNeg = i := nI_clamp (by omega)
  have e1 := ew_q1 (show 0 < q by omega)
  have a1 := hE i (by omega)
  refine xa_past H B ⟨?_, nm_r (e' := nI s.2.2.1) ?_ ⟨v1, v1, ?_⟩⟩
  · rw [e1]
    exact vp_in_nI (by omega) (by omega)
  · rw [e1, nI_clamp (by omega), (hE (q - 1) (by omega)).2.1, nI_add, s3]
  · rw [c1, a1.1, a1.2.1, ← s1, ← s2]
    refine xp_rem HP hs (fun m' pk ps pe pv p' h1 h2 => ⟨nc - q + 1, ?_⟩)
    refine xe_shift0 hn B1 (fun k ak aT av f g1 g2 => K k ak aT av f m' pk ps pe pv p' g1 g2 h1 h2) (nc - q) q i ak aT av c (by omega) (Nat.le_refl _) (by omega) (fun j hj => hE j (by omega)) (fun j _ hj => hE j hj) ?_
    rw [Nat.sub_self]
    exact (List.append_nil _).symm
theorem xa_exps0 (hok : ew_ok g lt W n e) (Hs : ew_srt e n) {P0 : List ew_P} {post : St2 → Prop}
    (K : ∀ nc mc c p ak aT av pk ps pe pv, ew_aE nc c ak aT av → ew_L c nc = (ew_L e n).filter (ew_kp g (ew_L e n) lt W) → ew_pa mc p pk ps pe pv → ew_L p mc = P0.filter (ew_pp g (ew_L e n) lt W) → post (nI g, nI lt, nI W, D, nI nc, nI mc, c0, ak, aT, av, pk, ps, pe, pv, r1, r2, r3, r4, r5)) :
    ∀ y Q nc mc c p ak aT av pk ps pe pv, y ≤ Q → Q ≤ n → (∀ j, y ≤ j → j < Q → ¬ ew_op g e j) → (Q < n → ew_op g e Q) → ew_aE nc c ak aT av → ew_L c nc = ew_L e Q ++ ew_T g e n lt W Q → ew_pa mc p pk ps pe pv → ew_L p mc = P0.filter (ew_FX g e n lt W y) →
      wX_expireSessions_7 post (y + 1) (nI y - 1) (nI g) (nI lt) (nI W) D (nI nc) (nI mc) c0 ak aT av pk ps pe pv r1 r2 r3 r4 r5 := by
  obtain ⟨o1, o2, o3, o4, o5, o6⟩ := id hok
  intro y
  induction y with
  | zero =>
    intro Q nc mc c p ak aT av pk ps pe pv h1 h2 h3 h4 h5 h6 h7 h8
    have hQ : Q = 0 := Nat.le_antisymm (Nat.not_lt.mp fun z => h3 0 (Nat.le_refl _) z (Or.inl rfl)) (Nat.zero_le _)
    subst hQ
    rw [ew_T_0] at h6
    rw [ew_FX_0 Hs o1] at h8
    exact br_t (by decide) (K nc mc c p ak aT av pk ps pe pv h5 h6 h7 h8)
  | succ y ih =>
    intro Q nc mc c p ak aT av pk ps pe pv h1 h2 h3 h4 h5 h6 h7 h8
    obtain ⟨L1, L2, L3⟩ := ew_Lpre h6
    have hT : (ew_T g e n lt W Q).length ≤ n - Q := by
      refine Nat.le_trans (List.length_filter_le _ _) ?_
      rw [ew_Ll]
      exact Nat.le_refl _
    have H : ew_ev g nc c ak aT av := by
      refine ⟨o1, o2, by omega, h5, fun j hj => ?_⟩
      have hm : c j ∈ ew_L e Q ++ ew_T g e n lt W Q := by
        rw [← h6]
        exact ew_Lm.mpr ⟨j, hj, rfl⟩
      rcases List.mem_append.mp hm with z | z
      · obtain ⟨t, ht, z2⟩ := ew_Lm.mp z
        rw [← z2]
        exact o6 t (by omega)
      · obtain ⟨t, _, ht, z2⟩ := ew_T_m z
        rw [← z2]
        exact o6 t ht
    have hop : ew_op g c y ↔ ew_op g e y := by
      unfold ew_op
      rw [L2 y (by omega), L2 (y - 1) (by omega)]
    have em : nI y + (-1) = nI y - 1 := (Int32.sub_eq_add_neg _ _).symm
    rw [nI_pred]
    refine br_f (nI_pos (by omega)) (xa_open H (by omega) (fun ho => br_f ew_10 ?_) (fun ho => br_t rfl (nm_r em (ih Q nc mc c p ak aT av pk ps pe pv (by omega) h2 (fun j a b => ?_) h4 h5 h6 h7 ?_))))
    · have ho' := hop.mp ho
      have B : ew_blk g e n y Q := ⟨by omega, h2, fun j a b => h3 j (by omega) b, h4⟩
      have Bc := ew_T_b Hs B h6
      obtain ⟨S1, _⟩ := ew_sX Hs o1 ho' B
      have O := ew_opO Hs (show y < n by omega) ho'
      have bs := ew_okS (ks := ((e y).1, (e y).2.1)) hok O
      have hend : (c (Q - 1)).2.1 + g = (ew_ss g (ew_L e n) ((e y).1, (e y).2.1)).2.2.1 := by
        rw [S1, L2 (Q - 1) (by omega)]
      refine xa_end H Bc ?_
      rw [hend, nI_add]
      refine ek_if (nI_ltI (by omega) (by omega)) (fun z => nm_r em (ih y nc mc c p ak aT av pk ps pe pv (Nat.le_refl _) (by omega) (fun j a b => by omega) (fun _ => ho') h5 ?_ h7 ?_)) (fun z => ?_)
      · rw [← ew_T_y Hs B ho' (by omega)]
        exact h6
      · rw [h8]
        exact ew_FX_keep P0 (fun z2 => by have := z2.2; omega)
      · refine xa_exp H h7 Bc (s := ew_ss g (ew_L e n) ((e y).1, (e y).2.1)) ⟨bs.1, by omega, bs.2.2⟩ ?_ ?_ hend.symm (fun k ak aT av f m' pk ps pe pv p' g1 g2 g3 g4 => nm_r em (ih y k m' f p' ak aT av pk ps pe pv (Nat.le_refl _) (by omega) (fun j a b => by omega) (fun _ => ho') g1 ?_ g3 ?_))
        · rw [L2 y (by omega)]
          rfl
        · rw [L2 y (by omega)]
          rfl
        · have e2 : ew_L c y = ew_L e y := ew_Lc (fun j hj => L2 j (by omega))
          rw [g2, L3, e2, ew_T_n Hs B ho' (by omega)]
        · rw [g4, h8]
          exact ew_FX_go P0 (by omega) ho' (by omega)
    · by_cases f : j = y
      · subst f
        exact fun z => ho (hop.mpr z)
      · exact h3 j (by omega) b
    · rw [h8]
      exact ew_FX_keep P0 (fun z2 => ho (hop.mpr z2.1))
theorem xa_exps (hok : ew_ok g lt W n e) (Hs : ew_srt e n) (hE : ew_aE n e ak aT av) (HP : ew_pa m p pk ps pe pv) {post : St2 → Prop}
    (K : ∀ nc mc c p' ak aT av pk ps pe pv, ew_aE nc c ak aT av → ew_L c nc = (ew_L e n).filter (ew_kp g (ew_L e n) lt W) → ew_pa mc p' pk ps pe pv → ew_L p' mc = (ew_L p m).filter (ew_pp g (ew_L e n) lt W) → post (nI g, nI lt, nI W, D, nI nc, nI mc, c0, ak, aT, av, pk, ps, pe, pv, r1, r2, r3, r4, r5)) : wpX_expireSessions post (nI g, nI lt, nI W, D, nI n, nI m, c0, ak, aT, av, pk, ps, pe, pv, r1, r2, r3, r4, r5) := by
  refine nm_e ⟨n + 1, xa_exps0 hok Hs (P0 := ew_L p m) K n n n m e p ak aT av pk ps pe pv (Nat.le_refl _) (Nat.le_refl _) (fun j a b => by omega) (fun z => by omega) hE ?_ HP ?_⟩
  · rw [ew_T_e, List.append_nil]
  · rw [ew_FX_n]
/-- fire, if the end is so -/
noncomputable def ew_fs (kd : Int32) (t : Nat → Bool) (g : Nat) (E : List ew_E) (st : List ew_P × ew_R) (ks : Nat × Nat) : List ew_P × ew_R := if t (ew_ss g E ks).2.2.1 = true then ew_fi kd st (ew_ss g E ks) else st
theorem ew_fs_y {kd : Int32} {t : Nat → Bool} {E : List ew_E} {st : List ew_P × ew_R} {ks : Nat × Nat} (h : t (ew_ss g E ks).2.2.1 = true) : ew_fs kd t g E st ks = ew_fi kd st (ew_ss g E ks) := by
  unfold ew_fs
  rw [if_pos h]
theorem ew_fs_n {kd : Int32} {t : Nat → Bool} {E : List ew_E} {st : List ew_P × ew_R} {ks : Nat × Nat} (h : ¬ t (ew_ss g E ks).2.2.1 = true) : ew_fs kd t g E st ks = st := by
  unfold ew_fs
  rw [if_neg h]
theorem ew_fs_G {kd : Int32} {t : Nat → Bool} {E : List ew_E} {st : List ew_P × ew_R} {ks : Nat × Nat} (hg : 0 < g) (ho : ew_O g (ew_M E) ks.1 ks.2) (h : ew_G g E st.1) : ew_G g E (ew_fs kd t g E st ks).1 := by
  unfold ew_fs
  split
  · exact ew_fi_G hg (k := ks.1) (s := ks.2) ho h
  · exact h
theorem ew_ff_G {kd : Int32} {t : Nat → Bool} {E : List ew_E} (hg : 0 < g) : ∀ (L : List (Nat × Nat)) (st : List ew_P × ew_R), (∀ ks, ks ∈ L → ew_O g (ew_M E) ks.1 ks.2) → ew_G g E st.1 → ew_G g E (L.foldl (ew_fs kd t g E) st).1 := by
  intro L
  induction L with
  | nil => intro st _ h; exact h
  | cons a L ih =>
    intro st ho h
    exact ih _ (fun ks hk => ho ks (List.mem_cons_of_mem _ hk)) (ew_fs_G hg (ho a List.mem_cons_self) h)
theorem ew_xl_O (Hs : ew_srt e n) (hx : x ≤ n) {ks : Nat × Nat} (h : ks ∈ ew_xl g e x) : ew_O g (ew_M (ew_L e n)) ks.1 ks.2 := by
  unfold ew_xl at h
  obtain ⟨j, hj, rfl⟩ := List.mem_map.mp h
  obtain ⟨h1, h2⟩ := List.mem_filter.mp hj
  have := List.mem_range.mp h1
  exact ew_opO Hs (by omega) (ew_dcI.mp h2)
theorem xa_adv0 (hok : ew_ok g lt W n e) (Hs : ew_srt e n) (hE : ew_aE n e ak aT av) {st0 : List ew_P × ew_R} (HG : ew_G g (ew_L e n) st0.1) {post : Int32 → St2 → Prop} {x2 : Int32}
    (K : ∀ nc mc c p R ak aT av pk ps pe pv, ew_aE nc c ak aT av → ew_L c nc = (ew_L e n).filter (ew_kp g (ew_L e n) lt W) → ew_pa mc p pk ps pe pv → (ew_L p mc, R) = (((ew_xl g e n).foldl (ew_fs 2 (fun z => ew_dc (z ≤ W)) g (ew_L e n)) st0).1.filter (ew_pp g (ew_L e n) lt W), ((ew_xl g e n).foldl (ew_fs 2 (fun z => ew_dc (z ≤ W)) g (ew_L e n)) st0).2) → post (R.2.2.2.2.2 - x2) (nI g, nI lt, nI W, D, nI nc, nI mc, R.2.2.2.2.2, ak, aT, av, pk, ps, pe, pv, R.1, R.2.1, R.2.2.1, R.2.2.2.1, R.2.2.2.2.1)) :
    ∀ d x m p R pk ps pe pv, x + d = n → ew_pa m p pk ps pe pv → (ew_L p m, R) = (ew_xl g e x).foldl (ew_fs 2 (fun z => ew_dc (z ≤ W)) g (ew_L e n)) st0 → wX_advance_28 post x2 (d + 1) (nI x) (nI g) (nI lt) (nI W) D (nI n) (nI m) R.2.2.2.2.2 ak aT av pk ps pe pv R.1 R.2.1 R.2.2.1 R.2.2.2.1 R.2.2.2.2.1 := by
  obtain ⟨o1, o2, o3, o4, o5, o6⟩ := id hok
  have H : ew_ev g n e ak aT av := ⟨o1, o2, o5, hE, o6⟩
  intro d
  induction d with
  | zero =>
    intro x m p R pk ps pe pv hx HP hR
    have hx' : x = n := by omega
    subst hx'
    refine br_t (nI_le (by omega) (by omega)) (xa_exps hok Hs hE HP (fun nc mc c p' ak aT av pk ps pe pv g1 g2 g3 g4 => K nc mc c p' R ak aT av pk ps pe pv g1 g2 g3 ?_))
    rw [← hR, g4]
  | succ d ih =>
    intro x m p R pk ps pe pv hx HP hR
    have G1 : ew_G g (ew_L e n) (ew_L p m) := by
      have := ew_ff_G (kd := 2) (t := fun z => ew_dc (z ≤ W)) o1 (ew_xl g e x) st0 (fun ks hk => ew_xl_O Hs (by omega) hk) HG
      rw [← hR] at this
      exact this
    refine br_f (nI_ge (by omega) (by omega)) (xa_open H (by omega) (fun ho => br_f ew_10 ?_) (fun ho => br_t rfl (nm_r (nI_1 x) (ih (x + 1) m p R pk ps pe pv (by omega) HP ?_))))
    · obtain ⟨q, B⟩ := ew_bx (g := g) (e := e) (show x < n by omega)
      obtain ⟨S1, _⟩ := ew_sX Hs o1 ho B
      have O := ew_opO Hs (show x < n by omega) ho
      have bs := ew_okS (ks := ((e x).1, (e x).2.1)) hok O
      have hend : (e (q - 1)).2.1 + g = (ew_ss g (ew_L e n) ((e x).1, (e x).2.1)).2.2.1 := by rw [S1]
      refine xa_end H B ?_
      rw [hend]
      refine ek_if (nI_ltI (by omega) (by omega)) (fun z => nm_r (nI_1 x) (ih (x + 1) m p R pk ps pe pv (by omega) HP ?_)) (fun z => xa_fire H Hs HP G1 (by omega) ho (fun k pk ps pe pv q' R' g1 g2 => nm_r (nI_1 x) (ih (x + 1) k q' R' pk ps pe pv (by omega) g1 ?_)))
      · rw [hR, ew_xl_y ho, List.foldl_append]
        rw [List.foldl_cons, List.foldl_nil, ew_fs_n]
        intro z2
        have := ew_dcI.mp z2
        omega
      · rw [g2, hR, ew_xl_y ho, List.foldl_append]
        rw [List.foldl_cons, List.foldl_nil, ew_fs_y (t := fun z => ew_dc (z ≤ W)) (ew_dcI.mpr (by omega))]
    · rw [hR, ew_xl_n ho]
theorem xa_adv (hok : ew_ok g lt W n e) (Hs : ew_srt e n) (hE : ew_aE n e ak aT av) (HP : ew_pa m p pk ps pe pv) (HG : ew_G g (ew_L e n) (ew_L p m)) {W' : Nat} (hW : W < W') (hW2 : W' ≤ 2100000) {post : Int32 → St2 → Prop}
    (K : ∀ nc mc c p' R' ak aT av pk ps pe pv, ew_aE nc c ak aT av → ew_L c nc = (ew_L e n).filter (ew_kp g (ew_L e n) lt W') → ew_pa mc p' pk ps pe pv → (ew_L p' mc, R') = (((ew_xl g e n).foldl (ew_fs 2 (fun z => ew_dc (z ≤ W')) g (ew_L e n)) (ew_L p m, R)).1.filter (ew_pp g (ew_L e n) lt W'), ((ew_xl g e n).foldl (ew_fs 2 (fun z => ew_dc (z ≤ W')) g (ew_L e n)) (ew_L p m, R)).2) → post (R'.2.2.2.2.2 - R.2.2.2.2.2) (nI g, nI lt, nI W', D, nI nc, nI mc, R'.2.2.2.2.2, ak, aT, av, pk, ps, pe, pv, R'.1, R'.2.1, R'.2.2.1, R'.2.2.2.1, R'.2.2.2.2.1)) : wpX_advance post (nI g, nI lt, nI W, D, nI n, nI m, R.2.2.2.2.2, ak, aT, av, pk, ps, pe, pv, R.1, R.2.1, R.2.2.1, R.2.2.2.1, R.2.2.2.2.1) (nI W') := by
  have hok' : ew_ok g lt W' n e := ⟨hok.1, hok.2.1, hok.2.2.1, hW2, hok.2.2.2.2⟩
  have h4 := hok.2.2.2.1
  exact br_f (nI_ge hW (by omega)) (br_t (nI_le (b := 2100000) hW2 (by omega)) ⟨n + 1, xa_adv0 hok' Hs hE HG K n 0 m p R pk ps pe pv (by omega) HP rfl⟩)
theorem xa_ear0 (hok : ew_ok g lt W n e) (Hs : ew_srt e n) (hE : ew_aE n e ak aT av) {st0 : List ew_P × ew_R} (HG : ew_G g (ew_L e n) st0.1) {post : Int32 → St2 → Prop} {x2 : Int32}
    (K : ∀ m p R pk ps pe pv, ew_pa m p pk ps pe pv → (ew_L p m, R) = (ew_xl g e n).foldl (ew_fs 1 (fun z => ew_dc (¬ z ≤ W)) g (ew_L e n)) st0 → post (R.2.2.2.2.2 - x2) (nI g, nI lt, nI W, D, nI n, nI m, R.2.2.2.2.2, ak, aT, av, pk, ps, pe, pv, R.1, R.2.1, R.2.2.1, R.2.2.2.1, R.2.2.2.2.1)) :
    ∀ d x m p R pk ps pe pv, x + d = n → ew_pa m p pk ps pe pv → (ew_L p m, R) = (ew_xl g e x).foldl (ew_fs 1 (fun z => ew_dc (¬ z ≤ W)) g (ew_L e n)) st0 → wX_early_7 post x2 (d + 1) (nI x) (nI g) (nI lt) (nI W) D (nI n) (nI m) R.2.2.2.2.2 ak aT av pk ps pe pv R.1 R.2.1 R.2.2.1 R.2.2.2.1 R.2.2.2.2.1 := by
  obtain ⟨o1, o2, o3, o4, o5, o6⟩ := id hok
  have H : ew_ev g n e ak aT av := ⟨o1, o2, o5, hE, o6⟩
  intro d
  induction d with
  | zero =>
    intro x m p R pk ps pe pv hx HP hR
    have hx' : x = n := by omega
    subst hx'
    exact br_t (nI_le (by omega) (by omega)) (K m p R pk ps pe pv HP hR)
  | succ d ih =>
    intro x m p R pk ps pe pv hx HP hR
    have G1 : ew_G g (ew_L e n) (ew_L p m) := by
      have := ew_ff_G (kd := 1) (t := fun z => ew_dc (¬ z ≤ W)) o1 (ew_xl g e x) st0 (fun ks hk => ew_xl_O Hs (by omega) hk) HG
      rw [← hR] at this
      exact this
    refine br_f (nI_ge (by omega) (by omega)) (xa_open H (by omega) (fun ho => br_f ew_10 ?_) (fun ho => br_t rfl (nm_r (nI_1 x) (ih (x + 1) m p R pk ps pe pv (by omega) HP ?_))))
    · obtain ⟨q, B⟩ := ew_bx (g := g) (e := e) (show x < n by omega)
      obtain ⟨S1, _⟩ := ew_sX Hs o1 ho B
      have O := ew_opO Hs (show x < n by omega) ho
      have bs := ew_okS (ks := ((e x).1, (e x).2.1)) hok O
      have hend : (e (q - 1)).2.1 + g = (ew_ss g (ew_L e n) ((e x).1, (e x).2.1)).2.2.1 := by rw [S1]
      refine xa_end H B ?_
      rw [hend]
      refine ek_if (nI_leI (by omega) (by omega)) (fun z => nm_r (nI_1 x) (ih (x + 1) m p R pk ps pe pv (by omega) HP ?_)) (fun z => xa_fire H Hs HP G1 (by omega) ho (fun k pk ps pe pv q' R' g1 g2 => nm_r (nI_1 x) (ih (x + 1) k q' R' pk ps pe pv (by omega) g1 ?_)))
      · rw [hR, ew_xl_y ho, List.foldl_append]
        rw [List.foldl_cons, List.foldl_nil, ew_fs_n]
        exact fun z2 => (ew_dcI.mp z2) z
      · rw [g2, hR, ew_xl_y ho, List.foldl_append]
        rw [List.foldl_cons, List.foldl_nil, ew_fs_y (t := fun z => ew_dc (¬ z ≤ W)) (ew_dcI.mpr z)]
    · rw [hR, ew_xl_n ho]
theorem xa_ear (hok : ew_ok g lt W n e) (Hs : ew_srt e n) (hE : ew_aE n e ak aT av) (HP : ew_pa m p pk ps pe pv) (HG : ew_G g (ew_L e n) (ew_L p m)) {post : Int32 → St2 → Prop}
    (K : ∀ m' p' R' pk ps pe pv, ew_pa m' p' pk ps pe pv → (ew_L p' m', R') = (ew_xl g e n).foldl (ew_fs 1 (fun z => ew_dc (¬ z ≤ W)) g (ew_L e n)) (ew_L p m, R) → post (R'.2.2.2.2.2 - R.2.2.2.2.2) (nI g, nI lt, nI W, D, nI n, nI m', R'.2.2.2.2.2, ak, aT, av, pk, ps, pe, pv, R'.1, R'.2.1, R'.2.2.1, R'.2.2.2.1, R'.2.2.2.2.1)) : wpX_early post (nI g, nI lt, nI W, D, nI n, nI m, R.2.2.2.2.2, ak, aT, av, pk, ps, pe, pv, R.1, R.2.1, R.2.2.1, R.2.2.2.1, R.2.2.2.2.1) :=
  ⟨n + 1, xa_ear0 hok Hs hE (st0 := (ew_L p m, R)) HG K n 0 m p R pk ps pe pv (by omega) HP rfl⟩
end
end
section
section
variable {g n m i j x k t lt W b : Nat} {l w D c v : Int32} {ak aT av ek et ev la mk pk ps pe pv r1 r2 r3 r4 r5 : Nat → Int32} {e f : Nat → ew_E} {lb : Nat → Nat} {p q : Nat → ew_P} {R : ew_R}
theorem xa_add (hok : ew_ok g lt W n e) (Hs : ew_srt e n) (hE : ew_aE n e ak aT av) (HP : ew_pa m p pk ps pe pv) (HG : ew_G g (ew_L e n) (ew_L p m)) (hk : k ≤ 7) (ht : t ≤ 1000000) (hv1 : ¬ v < -1000) (hv2 : v ≤ 1000) (hW : W ≤ t + lt) (hn : n < 32) {post : Int32 → St2 → Prop}
    (K : ∀ b ak aT av m' p' R' pk ps pe pv, b ≤ n → ew_srt (ew_put e (k, t, v) b) (n + 1) → ew_aE (n + 1) (ew_put e (k, t, v) b) ak aT av → ew_pa m' p' pk ps pe pv → (ew_L p' m', R') = ew_fs 3 (fun z => ew_dc (z ≤ W)) g (ew_L (ew_put e (k, t, v) b) (n + 1)) (ew_L p m, R) (ew_ks g (ew_put e (k, t, v) b) (n + 1) b) → post (R'.2.2.2.2.2 - R.2.2.2.2.2) (nI g, nI lt, nI W, D, nI (n + 1), nI m', R'.2.2.2.2.2, ak, aT, av, pk, ps, pe, pv, R'.1, R'.2.1, R'.2.2.1, R'.2.2.2.1, R'.2.2.2.2.1)) : wpX_addEvent post (nI g, nI lt, nI W, D, nI n, nI m, R.2.2.2.2.2, ak, aT, av, pk, ps, pe, pv, R.1, R.2.1, R.2.2.1, R.2.2.2.1, R.2.2.2.2.1) (nI k) (nI t) v := by
  obtain ⟨o1, o2, o3, o4, o5, o6⟩ := id hok
  have H : ew_ev g n e ak aT av := ⟨o1, o2, o5, hE, o6⟩
  refine br_f (nI_pos (by omega)) (br_t (nI_le (b := 7) hk (by omega)) (br_f (nI_pos (by omega)) (br_t (nI_le (b := 1000000) ht (by omega)) (br_f hv1 (br_t hv2 (br_t ?_ (br_t (nI_lt (b := 32) hn (by omega)) ?_)))))))
  · rw [nI_add]
    exact nI_le hW (by omega)
  · refine xe_ins (s := (k, t, v)) H hn ⟨hk, ht⟩ (fun b ak aT av hb h1 h2 h3 => ?_)
    have Hs' : ew_srt (ew_put e (k, t, v) b) (n + 1) := ew_put_s Hs hb h1 (by
      rcases h2 with h2 | h2
      · exact Or.inl h2
      · refine Or.inr ?_
        unfold ew_ela at h2
        dsimp only at h2
        omega)
    have hb' : ∀ i, i < n + 1 → (ew_put e (k, t, v) b i).1 ≤ 7 ∧ (ew_put e (k, t, v) b i).2.1 ≤ 1000000 := by
      intro i hi
      by_cases a : i < b
      · rw [ew_put_a a]
        exact o6 i (by omega)
      · by_cases d : i = b
        · rw [d, ew_put_b]
          exact ⟨hk, ht⟩
        · rw [ew_put_c (show b < i by omega)]
          exact o6 (i - 1) (by omega)
    have hok' : ew_ok g lt W (n + 1) (ew_put e (k, t, v) b) := ⟨o1, o2, o3, o4, by omega, hb'⟩
    have H' : ew_ev g (n + 1) (ew_put e (k, t, v) b) ak aT av := ⟨o1, o2, by omega, h3, hb'⟩
    have HG' : ew_G g (ew_L (ew_put e (k, t, v) b) (n + 1)) (ew_L p m) := ew_add_G (fun x hx => (ew_put_p e (k, t, v) b n hb).mem_iff.mpr (List.mem_cons_of_mem _ hx)) HG
    refine xa_first H' (show b < n + 1 by omega) (fun i hi ho hno => ?_)
    have hks := ew_ksX Hs' (show b < n + 1 by omega) hi ho hno
    have K' := K b ak aT av
    rw [hks] at K'
    obtain ⟨q0, B⟩ := ew_bx (g := g) (e := ew_put e (k, t, v) b) (show i < n + 1 by omega)
    obtain ⟨S1, _⟩ := ew_sX Hs' o1 ho B
    have O := ew_opO Hs' (show i < n + 1 by omega) ho
    have bs := ew_okS (ks := ((ew_put e (k, t, v) b i).1, (ew_put e (k, t, v) b i).2.1)) hok' O
    have hend : (ew_put e (k, t, v) b (q0 - 1)).2.1 + g = (ew_ss g (ew_L (ew_put e (k, t, v) b) (n + 1)) ((ew_put e (k, t, v) b i).1, (ew_put e (k, t, v) b i).2.1)).2.2.1 := by rw [S1]
    refine xa_end H' B ?_
    rw [hend]
    refine ek_if (nI_ltI (by omega) (by omega)) (fun z => K' m p R pk ps pe pv hb Hs' h3 HP ?_) (fun z => xa_fire H' Hs' HP HG' (by omega) ho (fun k2 pk ps pe pv q' R' g1 g2 => K' k2 q' R' pk ps pe pv hb Hs' h3 g1 ?_))
    · rw [ew_fs_n]
      intro z2
      have := ew_dcI.mp z2
      omega
    · rw [g2, ew_fs_y (t := fun z => ew_dc (z ≤ W)) (ew_dcI.mpr (by omega))]
/-- a session's field -/
def ew_sf (y : ew_P) (cn : Nat) (z : Int32) : Int32 := if z = 1 then nI y.1 else if z = 2 then nI y.2.1 else if z = 3 then nI y.2.2.1 else if z = 4 then y.2.2.2 else if z = 5 then nI cn else -1
theorem ew_xl_i : ∀ n j, j < (ew_xl g e n).length → ∃ i, i < n ∧ ew_op g e i ∧ (ew_xl g e i).length = j := by
  intro n
  induction n with
  | zero => intro j h; exact absurd h (Nat.not_lt_zero j)
  | succ n ih =>
    intro j h
    by_cases c : ew_op g e n
    · rw [ew_xl_y c, List.length_append] at h
      by_cases d : j < (ew_xl g e n).length
      · obtain ⟨i, h1, h2, h3⟩ := ih j d
        exact ⟨i, by omega, h2, h3⟩
      · refine ⟨n, by omega, c, ?_⟩
        have h' : j < (ew_xl g e n).length + 1 := h
        omega
    · rw [ew_xl_n c] at h
      obtain ⟨i, h1, h2, h3⟩ := ih j h
      exact ⟨i, by omega, h2, h3⟩
theorem xq_sess (H : ew_ev g n e ak aT av) (Hs : ew_srt e n) {y z : Int32} {post : Int32 → Prop}
    (h1 : ∀ x ks, y = nI x → x < (ew_xl g e n).length → (ew_xl g e n)[x]? = some ks → post (ew_sf (ew_ss g (ew_L e n) ks) (ew_sc g (ew_L e n) ks) z)) (h0 : (∀ x, x < (ew_xl g e n).length → y ≠ nI x) → post (-1)) : wpX_sessionField post (nI g, l, w, D, nI n, nI m, c, ak, aT, av, pk, ps, pe, pv, r1, r2, r3, r4, r5) y z := by
  obtain ⟨o1, o2, o3, hE, o6⟩ := id H
  refine xa_at H (fun i hi ho hy => br_t (nI_lt hi (by omega)) ?_) (fun hno => br_f (nI_nlt (Nat.le_refl n) (by omega)) (h0 (fun x hx hy => ?_)))
  · have vi : vp_in (nI i) 32 := vp_in_nI (by omega) (by omega)
    have ci : (nI i).toNatClampNeg = i := nI_clamp (by omega)
    obtain ⟨q0, B⟩ := ew_bx (g := g) (e := e) hi
    have B1 := B.1
    obtain ⟨S1, S2⟩ := ew_sX Hs o1 ho B
    have hg := ew_xl_g ho (n - (i + 1))
    rw [show i + 1 + (n - (i + 1)) = n by omega] at hg
    have hlt := (List.getElem?_eq_some_iff.mp hg).1
    have hp := h1 _ _ hy hlt hg
    rw [S1, S2] at hp
    unfold ew_sf at hp
    dsimp only at hp
    by_cases c1 : z = 1
    · rw [if_pos c1] at hp
      subst c1
      exact br_f (by decide) (br_f (by decide) (br_t rfl ⟨vi, by rw [ci, (hE i hi).1]; exact hp⟩))
    · by_cases c2 : z = 2
      · rw [if_neg c1, if_pos c2] at hp
        subst c2
        exact br_f (by decide) (br_f (by decide) (br_f c1 (br_t rfl ⟨vi, by rw [ci, (hE i hi).2.1]; exact hp⟩)))
      · by_cases c3 : z = 3
        · rw [if_neg c1, if_neg c2, if_pos c3] at hp
          subst c3
          exact br_f (by decide) (br_f (by decide) (br_f c1 (br_f c2 (br_t rfl (xa_end H B hp)))))
        · by_cases c4 : z = 4
          · rw [if_neg c1, if_neg c2, if_neg c3, if_pos c4] at hp
            subst c4
            exact br_f (by decide) (br_f (by decide) (br_f c1 (br_f c2 (br_f c3 (br_t rfl (xa_sum H B hp))))))
          · by_cases c5 : z = 5
            · rw [if_neg c1, if_neg c2, if_neg c3, if_neg c4, if_pos c5] at hp
              subst c5
              exact br_f (by decide) (br_f (by decide) (br_f c1 (br_f c2 (br_f c3 (br_f c4 (br_t rfl (xa_past H B (by rw [pk_sub (by omega)]; exact hp))))))))
            · rw [if_neg c1, if_neg c2, if_neg c3, if_neg c4, if_neg c5] at hp
              exact br_c (fun _ => hp) (fun _ => br_c (fun _ => hp) (fun _ => br_f c1 (br_f c2 (br_f c3 (br_f c4 (br_f c5 trivial))))))
  · obtain ⟨i, a1, a2, a3⟩ := ew_xl_i n x hx
    exact hno i a1 a2 (by rw [a3]; exact hy)
end
section
theorem ew_srtL {e : Nat → ew_E} {n : Nat} : ew_srt e n ↔ (ew_L e n).Pairwise (fun a b => a.1 < b.1 ∨ (a.1 = b.1 ∧ a.2.1 ≤ b.2.1)) := by
  rw [ew_Lp]
  constructor
  · intro h i j hij hj
    exact h i j (by omega) hj
  · intro h i j hij hj
    by_cases c : i = j
    · subst c
      exact Or.inr ⟨rfl, Nat.le_refl _⟩
    · exact h i j (by omega) hj
end
end
section
/-! parts of the events that no link leaves -/
section
variable {g k a b o : Nat} {M N : Nat → Nat → Prop}
def fw_cl (g : Nat) (N M : Nat → Nat → Prop) : Prop := (∀ k t, N k t → M k t) ∧ ∀ k t t', N k t → M k t' → t < t' + g → t' < t + g → N k t'
theorem fw_O (h : fw_cl g N M) : ew_O g N k o ↔ ew_O g M k o ∧ N k o := by
  constructor
  · intro ho
    exact ⟨ew_restr (fun t t' n m l1 l2 => h.2 k t t' n m l2 (by omega)) (h.1 k) ho, ho.1⟩
  · rintro ⟨ho, n⟩
    exact ⟨n, fun t' n' l => ho.2 t' (h.1 k t' n') l⟩
theorem fw_S (h : fw_cl g N M) (ha : N k a) (hb : N k b) : ew_S g M k a b ↔ ew_S g N k a b := by
  constructor
  · intro s
    exact ew_restrS (fun t t' n m l1 l2 => h.2 k t t' n m l2 (by omega)) (h.1 k) s
  · intro s
    have key : ∀ x y, N k x → N k y → x ≤ y → y < x + g → (ew_S g M k a x ↔ ew_S g M k a y) := by
      intro x y nx ny l1 l2
      have l := ew_lk (h.1 k x nx) l1 l2
      exact ⟨fun z => ew_St z l, fun z => ew_St z (ew_Ss l)⟩
    exact (ew_cls (g := g) (fun t => ew_S g M k a t) key ha hb s).mp ew_Sr
theorem fw_in (h : fw_cl g N M) (ha : N k a) (hb : M k b) (s : ew_S g M k a b) : N k b := by
  have key : ∀ x y, M k x → M k y → x ≤ y → y < x + g → (N k x ↔ N k y) := by
    intro x y mx my l1 l2
    exact ⟨fun z => h.2 k x y z my (by omega) l2, fun z => h.2 k y x z mx l2 (by omega)⟩
  exact (ew_cls (g := g) (fun t => N k t) key (h.1 k a ha) hb s).mp ha
end
section
variable {g k a b s : Nat} {E E1 E2 : List ew_E}
theorem fw_Ma : ew_M (E1 ++ E2) k a ↔ ew_M E1 k a ∨ ew_M E2 k a := by
  constructor
  · rintro ⟨v, h⟩
    rcases List.mem_append.mp h with h | h
    · exact Or.inl ⟨v, h⟩
    · exact Or.inr ⟨v, h⟩
  · rintro (⟨v, h⟩ | ⟨v, h⟩)
    · exact ⟨v, List.mem_append.mpr (Or.inl h)⟩
    · exact ⟨v, List.mem_append.mpr (Or.inr h)⟩
/-- E falls into E1 and E2, and no link goes from one to the other -/
def fw_sp (g : Nat) (E E1 E2 : List ew_E) : Prop := E.Perm (E1 ++ E2) ∧ ∀ k a b, ew_M E1 k a → ew_M E2 k b → a + g ≤ b ∨ b + g ≤ a
theorem fw_sp_s (h : fw_sp g E E1 E2) : fw_sp g E E2 E1 := ⟨h.1.trans List.perm_append_comm, fun k a b x y => (h.2 k b a y x).symm⟩
theorem fw_sp_c (h : fw_sp g E E1 E2) : fw_cl g (ew_M E1) (ew_M E) := by
  rw [ew_Mp h.1]
  refine ⟨fun k t n => fw_Ma.mpr (Or.inl n), fun k t t' n m l1 l2 => ?_⟩
  rcases fw_Ma.mp m with z | z
  · exact z
  · have := h.2 k t t' n z
    omega
theorem fw_sp_O (h : fw_sp g E E1 E2) : ew_O g (ew_M E) k s ↔ ew_O g (ew_M E1) k s ∨ ew_O g (ew_M E2) k s := by
  rw [fw_O (fw_sp_c h), fw_O (fw_sp_c (fw_sp_s h))]
  constructor
  · intro ho
    have m := ho.1
    rw [ew_Mp h.1] at m
    rcases fw_Ma.mp m with z | z
    · exact Or.inl ⟨ho, z⟩
    · exact Or.inr ⟨ho, z⟩
  · rintro (z | z)
    · exact z.1
    · exact z.1
theorem fw_sp_f (h : fw_sp g E E1 E2) (hg : 0 < g) (hN : ew_M E1 k s) : (E.filter (ew_cl g E k s)).Perm (E1.filter (ew_cl g E1 k s)) := by
  refine (h.1.filter _).trans ?_
  rw [List.filter_append]
  have e2 : E2.filter (ew_cl g E k s) = [] := by
    refine ew_filt_none (fun y hy => ?_)
    apply ew_dcF.mpr
    rintro ⟨y1, y2⟩
    obtain ⟨yk, yt, yv⟩ := y
    dsimp only at y1 y2
    subst y1
    have m2 : ew_M E2 yk yt := ⟨yv, hy⟩
    have m : ew_M E yk yt := (fw_sp_c (fw_sp_s h)).1 yk yt m2
    have m1 := fw_in (fw_sp_c h) hN m y2
    have := h.2 yk yt yt m1 m2
    omega
  have e1 : E1.filter (ew_cl g E k s) = E1.filter (ew_cl g E1 k s) := by
    apply List.filter_congr
    intro y hy
    obtain ⟨yk, yt, yv⟩ := y
    apply ew_dcC
    dsimp only
    constructor
    · rintro ⟨y1, y2⟩
      subst y1
      exact ⟨rfl, (fw_S (fw_sp_c h) hN ⟨yv, hy⟩).mp y2⟩
    · rintro ⟨y1, y2⟩
      subst y1
      exact ⟨rfl, (fw_S (fw_sp_c h) hN ⟨yv, hy⟩).mpr y2⟩
  rw [e1, e2, List.append_nil]
theorem fw_sp_ss (h : fw_sp g E E1 E2) (hg : 0 < g) (hN : ew_M E1 k s) : ew_ss g E (k, s) = ew_ss g E1 (k, s) := by
  unfold ew_ss
  dsimp only
  rw [ew_mx_p (fw_sp_f h hg hN), ew_sm_p (fw_sp_f h hg hN)]
/-- the sessions of X are the panes Rt -/
def fw_SL (g : Nat) (X : List ew_E) (Rt : List ew_P) : Prop := (∀ k s, ew_O g (ew_M X) k s → ew_ss g X (k, s) ∈ Rt) ∧ (∀ r, r ∈ Rt → ew_O g (ew_M X) r.1 r.2.1 ∧ r = ew_ss g X (r.1, r.2.1)) ∧ Rt.Pairwise (fun a b => ew_pk a ≠ ew_pk b)
theorem fw_SL_a (hg : 0 < g) {X1 X2 : List ew_E} {R1 R2 : List ew_P} (hx : ∀ k a b, ew_M X1 k a → ew_M X2 k b → a + g ≤ b ∨ b + g ≤ a) (h1 : fw_SL g X1 R1) (h2 : fw_SL g X2 R2) : fw_SL g (X1 ++ X2) (R1 ++ R2) := by
  have sp : fw_sp g (X1 ++ X2) X1 X2 := ⟨List.Perm.refl _, hx⟩
  refine ⟨fun k s ho => ?_, fun r hr => ?_, ?_⟩
  · rcases (fw_sp_O sp).mp ho with z | z
    · rw [fw_sp_ss sp hg z.1]
      exact List.mem_append.mpr (Or.inl (h1.1 k s z))
    · rw [fw_sp_ss (fw_sp_s sp) hg z.1]
      exact List.mem_append.mpr (Or.inr (h2.1 k s z))
  · rcases List.mem_append.mp hr with z | z
    · obtain ⟨a1, a2⟩ := h1.2.1 r z
      refine ⟨(fw_sp_O sp).mpr (Or.inl a1), ?_⟩
      rw [fw_sp_ss sp hg a1.1]
      exact a2
    · obtain ⟨a1, a2⟩ := h2.2.1 r z
      refine ⟨(fw_sp_O sp).mpr (Or.inr a1), ?_⟩
      rw [fw_sp_ss (fw_sp_s sp) hg a1.1]
      exact a2
  · refine List.pairwise_append.mpr ⟨h1.2.2, h2.2.2, fun a ha b hb z => ?_⟩
    obtain ⟨a1, _⟩ := h1.2.1 a ha
    obtain ⟨b1, _⟩ := h2.2.1 b hb
    have z1 : a.1 = b.1 := show (ew_pk a).1 = (ew_pk b).1 from congrArg Prod.fst z
    have z2 : a.2.1 = b.2.1 := show (ew_pk a).2 = (ew_pk b).2 from congrArg Prod.snd z
    have m1 := a1.1
    have m2 := b1.1
    rw [z1, z2] at m1
    have := hx _ _ _ m1 m2
    omega
theorem fw_SL_p {X1 X2 : List ew_E} {Rt : List ew_P} (h : X1.Perm X2) (s : fw_SL g X1 Rt) : fw_SL g X2 Rt := by
  unfold fw_SL at s ⊢
  rw [← ew_Mp h, ← ew_ss_p h]
  exact s
/-- a pane can't belong to two sessions -/
theorem fw_dis {k s k' s' : Nat} {p : ew_P} (ho : ew_O g (ew_M E) k s) (ho' : ew_O g (ew_M E) k' s') (lt : p.2.1 < p.2.2.1) (h : ew_bl (ew_ss g E (k, s)) p) (h' : ew_bl (ew_ss g E (k', s')) p) : k = k' ∧ s = s' := by
  have key : ∀ {k s s'}, ew_O g (ew_M E) k s → ew_O g (ew_M E) k s' → ew_bl (ew_ss g E (k, s)) p → ew_bl (ew_ss g E (k, s')) p → ¬ s < s' := by
    intro k s s' ho ho' h h' l
    obtain ⟨b, mb, sb, he, _, _⟩ := ew_ss_e ho
    have h1 := h.2.2
    have h2 : s' ≤ p.2.1 := h'.2.1
    rw [he] at h1
    by_cases c : s' ≤ b
    · have := (sb s' ho').mpr c
      omega
    · have := ho'.2 b mb (by omega)
      omega
  have hk : k = k' := h.1.symm.trans h'.1
  subst hk
  have a1 := key ho ho' h h'
  have a2 := key ho' ho h' h
  exact ⟨rfl, by omega⟩
end
end
section
/-! firing: what is in sync stays so; the sum of the records -/
section
variable {g k s : Nat} {E : List ew_E} {P : List ew_P} {R : ew_R} {kd : Int32}
def fw_PJ (g : Nat) (M : Nat → Nat → Prop) (p : ew_P) : Prop := M p.1 p.2.1 ∧ ∃ b, M p.1 b ∧ ew_S g M p.1 p.2.1 b ∧ p.2.1 ≤ b ∧ p.2.2.1 = b + g
def fw_K (g : Nat) (E : List ew_E) (P : List ew_P) : Prop := ew_G g E P ∧ ∀ p, p ∈ P → fw_PJ g (ew_M E) p
theorem fw_bl_r (x : ew_P) : ew_bl x x := ⟨rfl, Nat.le_refl _, Nat.le_refl _⟩
theorem fw_PJ_n (ho : ew_O g (ew_M E) k s) : fw_PJ g (ew_M E) (ew_ss g E (k, s)) := by
  obtain ⟨b, mb, sb, he, l, _⟩ := ew_ss_e ho
  exact ⟨ho.1, b, mb, sb, l, he⟩
theorem fw_N_i {x p : ew_P} (h : p ∈ ew_ins x (ew_N x P)) : p = x ∨ p ∈ P := by
  rcases List.mem_cons.mp ((ew_ins_p _ _).mem_iff.mp h) with z | z
  · exact Or.inl z
  · exact Or.inr (ew_N_m.mp z).1
theorem fw_K_fi (hg : 0 < g) (ho : ew_O g (ew_M E) k s) (h : fw_K g E P) : fw_K g E (ew_fi kd (P, R) (ew_ss g E (k, s))).1 := by
  refine ⟨ew_fi_G hg ho h.1, fun p hp => ?_⟩
  by_cases c : ew_B (ew_ss g E (k, s)) P = [ew_ss g E (k, s)]
  · rw [ew_fi_y (st := (P, R)) c] at hp
    exact h.2 p hp
  · rw [ew_fi_n (st := (P, R)) c] at hp
    dsimp only at hp
    split at hp
    · rcases fw_N_i hp with z | z
      · rw [z]
        exact fw_PJ_n ho
      · exact h.2 p z
    · exact h.2 p (ew_N_m.mp hp).1
/-- no more panes than events -/
theorem fw_len (h : fw_K g E P) : P.length ≤ E.length := by
  have n1 : (P.map ew_pk).Nodup := by
    refine List.pairwise_map.mpr (List.Pairwise.imp ?_ h.1.1)
    intro a b hab z
    unfold ew_pl at hab
    rw [z] at hab
    exact ew_lt_as hab hab
  have n2 : P.map ew_pk ⊆ E.map (fun x => (x.1, x.2.1)) := by
    intro y hy
    obtain ⟨p, hp, rfl⟩ := List.mem_map.mp hy
    obtain ⟨v, hv⟩ := (h.2 p hp).1
    exact List.mem_map.mpr ⟨_, hv, rfl⟩
  have := List.Nodup.length_le_of_subset n1 n2
  rw [List.length_map, List.length_map] at this
  exact this
/-- the session ks is in sync -/
def fw_sy (g : Nat) (E : List ew_E) (P : List ew_P) (ks : Nat × Nat) : Prop := ew_B (ew_ss g E ks) P = [ew_ss g E ks]
theorem fw_B1 {x : ew_P} {P Q : List ew_P} (h : P.Perm Q) (e : ew_B x Q = [x]) : ew_B x P = [x] := by
  have h1 : (ew_B x P).Perm (ew_B x Q) := h.filter _
  rw [e] at h1
  exact List.perm_singleton.mp h1
theorem fw_own {x : ew_P} (hl : (ew_N x P).length < 32) : ew_B x (ew_fi kd (P, R) x).1 = [x] := by
  by_cases c : ew_B x P = [x]
  · rw [ew_fi_y (st := (P, R)) c]
    exact c
  · rw [ew_fi_n (st := (P, R)) c]
    dsimp only
    rw [if_pos hl]
    refine fw_B1 (ew_ins_p _ _) ?_
    unfold ew_B
    rw [List.filter_cons_of_pos (p := fun p => ew_dc (ew_bl x p)) (ew_dcI.mpr (fw_bl_r x)), ew_filt_none (fun y hy => ew_dcF.mpr (ew_N_m.mp hy).2)]
theorem fw_oth {k' s' : Nat} (hg : 0 < g) (ho : ew_O g (ew_M E) k s) (ho' : ew_O g (ew_M E) k' s') (hne : ¬ (k = k' ∧ s = s')) (hP : ew_G g E P) (h : ew_B (ew_ss g E (k, s)) P = [ew_ss g E (k, s)]) : ew_B (ew_ss g E (k, s)) (ew_fi kd (P, R) (ew_ss g E (k', s'))).1 = [ew_ss g E (k, s)] := by
  have n1 : ¬ ew_bl (ew_ss g E (k, s)) (ew_ss g E (k', s')) := fun z => hne (fw_dis ho ho' (ew_pi_new hg ho').1 z (fw_bl_r _))
  have n2 : ew_B (ew_ss g E (k, s)) (ew_N (ew_ss g E (k', s')) P) = [ew_ss g E (k, s)] := by
    rw [← h]
    unfold ew_B ew_N
    rw [List.filter_filter]
    apply List.filter_congr
    intro p hp
    rw [Bool.eq_iff_iff, Bool.and_eq_true, ew_dcI, ew_dcI]
    exact ⟨fun z => z.1, fun z => ⟨z, fun z2 => hne (fw_dis ho ho' (hP.2.1 p hp).1 z z2)⟩⟩
  by_cases c : ew_B (ew_ss g E (k', s')) P = [ew_ss g E (k', s')]
  · rw [ew_fi_y (st := (P, R)) c]
    exact h
  · rw [ew_fi_n (st := (P, R)) c]
    dsimp only
    split
    · refine fw_B1 (ew_ins_p _ _) ?_
      rw [← n2]
      unfold ew_B
      rw [List.filter_cons_of_neg (p := fun p => ew_dc (ew_bl (ew_ss g E (k, s)) p)) (fun z => n1 (ew_dcI.mp z))]
    · exact n2
theorem fw_fs_sy {t : Nat → Bool} {ks ks' : Nat × Nat} {st : List ew_P × ew_R} (hg : 0 < g) (hl : E.length < 32) (hK : fw_K g E st.1) (ho : ew_O g (ew_M E) ks.1 ks.2) (ho' : ew_O g (ew_M E) ks'.1 ks'.2) (h : fw_sy g E st.1 ks ∨ (ks = ks' ∧ t (ew_ss g E ks).2.2.1 = true)) : fw_sy g E (ew_fs kd t g E st ks').1 ks := by
  have hN : (ew_N (ew_ss g E ks') st.1).length < 32 := by
    have h1 := fw_len hK
    have h2 : (ew_N (ew_ss g E ks') st.1).length ≤ st.1.length := List.length_filter_le _ _
    omega
  unfold fw_sy
  by_cases c : t (ew_ss g E ks').2.2.1 = true
  · rw [ew_fs_y c]
    by_cases d : ks = ks'
    · subst d
      exact fw_own hN
    · rcases h with h | h
      · exact fw_oth (P := st.1) (R := st.2) (k := ks.1) (s := ks.2) (k' := ks'.1) (s' := ks'.2) hg ho ho' (fun z => d (Prod.ext z.1 z.2)) hK.1 h
      · exact absurd h.1 d
  · rw [ew_fs_n c]
    rcases h with h | h
    · exact h
    · rw [h.1] at h
      exact absurd h.2 c
theorem fw_fs_K {t : Nat → Bool} {ks : Nat × Nat} {st : List ew_P × ew_R} (hg : 0 < g) (ho : ew_O g (ew_M E) ks.1 ks.2) (h : fw_K g E st.1) : fw_K g E (ew_fs kd t g E st ks).1 := by
  unfold ew_fs
  split
  · exact fw_K_fi (P := st.1) (R := st.2) (k := ks.1) (s := ks.2) hg ho h
  · exact h
theorem fw_ff_sy {t : Nat → Bool} (hg : 0 < g) (hl : E.length < 32) {ks : Nat × Nat} (ho : ew_O g (ew_M E) ks.1 ks.2) : ∀ (L : List (Nat × Nat)) (st : List ew_P × ew_R), (∀ x, x ∈ L → ew_O g (ew_M E) x.1 x.2) → fw_K g E st.1 → (fw_sy g E st.1 ks ∨ (ks ∈ L ∧ t (ew_ss g E ks).2.2.1 = true)) → fw_sy g E (L.foldl (ew_fs kd t g E) st).1 ks := by
  intro L
  induction L with
  | nil =>
    intro st _ _ h
    rcases h with h | h
    · exact h
    · exact absurd h.1 List.not_mem_nil
  | cons a L ih =>
    intro st hL hK h
    have ha := hL a List.mem_cons_self
    refine ih _ (fun x hx => hL x (List.mem_cons_of_mem _ hx)) (fw_fs_K hg ha hK) ?_
    rcases h with h | h
    · exact Or.inl (fw_fs_sy hg hl hK ho ha (Or.inl h))
    · rcases List.mem_cons.mp h.1 with z | z
      · exact Or.inl (fw_fs_sy hg hl hK ho ha (Or.inr ⟨z, h.2⟩))
      · exact Or.inr ⟨z, h.2⟩
end
section
def fw_s {α : Type} (f : α → Int64) (l : List α) : Int64 := l.foldr (fun x s => f x + s) 0
variable {α : Type} {f : α → Int64} {l l' : List α}
theorem fw_s_a : fw_s f (l ++ l') = fw_s f l + fw_s f l' := by
  induction l with
  | nil => exact (Int64.zero_add _).symm
  | cons x l ih =>
    show f x + fw_s f (l ++ l') = f x + fw_s f l + fw_s f l'
    rw [ih, Int64.add_assoc]
theorem fw_s_1 {x : α} : fw_s f [x] = f x := Int64.add_zero _
theorem fw_s_c {x : α} : fw_s f (x :: l) = f x + fw_s f l := rfl
theorem fw_s_p (h : l.Perm l') : fw_s f l = fw_s f l' :=
  h.foldr_eq' (fun x _ y _ z => by
    show f y + (f x + z) = f x + (f y + z)
    rw [← Int64.add_assoc, ← Int64.add_assoc, Int64.add_comm (f y) (f x)]) 0
/-- a record's share -/
def fw_g (f : ew_P → Int64) (x : Int32 × ew_P) : Int64 := if x.1 = 4 then - f x.2 else f x.2
theorem fw_s_r {f : ew_P → Int64} (B : List ew_P) : fw_s (fw_g f) (B.map (fun p => ((4 : Int32), p))) = - fw_s f B := by
  induction B with
  | nil =>
    show (0 : Int64) = - 0
    decide
  | cons b B ih =>
    rw [List.map_cons, fw_s_c, fw_s_c, ih]
    show - f b + - fw_s f B = - (f b + fw_s f B)
    grind
def fw_R (Lg : List (Int32 × ew_P)) (R : ew_R) : Prop := Lg.length ≤ 64 ∧ R.2.2.2.2.2 = nI Lg.length ∧ ∀ i x, Lg[i]? = some x → R.1 i = x.1 ∧ R.2.1 i = nI x.2.1 ∧ R.2.2.1 i = nI x.2.2.1 ∧ R.2.2.2.1 i = nI x.2.2.2.1 ∧ R.2.2.2.2.1 i = x.2.2.2.2
theorem fw_R_em {Lg : List (Int32 × ew_P)} {R : ew_R} {kd : Int32} {p : ew_P} (h : fw_R Lg R) (hl : Lg.length < 64) : fw_R (Lg ++ [(kd, p)]) (ew_em R kd (nI p.1) (nI p.2.1) (nI p.2.2.1) p.2.2.2) := by
  obtain ⟨h1, h2, h3⟩ := h
  have e1 : (R.2.2.2.2.2 &&& 63).toNatClampNeg = Lg.length := by
    rw [h2, pk_and _ 6 (by decide), pk_tn (by omega), Nat.mod_eq_of_lt (by omega), nI_clamp (by omega)]
  refine ⟨by rw [List.length_append]; exact hl, ?_, fun i x hx => ?_⟩
  · rw [List.length_append]
    show R.2.2.2.2.2 + 1 = nI (Lg.length + 1)
    rw [h2, nI_1]
  · unfold ew_em
    dsimp only
    rw [e1]
    by_cases c : i = Lg.length
    · rw [c, List.getElem?_append_right (Nat.le_refl _), Nat.sub_self] at hx
      have hx' : (kd, p) = x := Option.some.inj hx
      rw [← hx', c]
      exact ⟨pk_us, pk_us, pk_us, pk_us, pk_us⟩
    · have hi : i < Lg.length := by
        have := (List.getElem?_eq_some_iff.mp hx).1
        rw [List.length_append] at this
        have t : i < Lg.length + 1 := this
        omega
      rw [List.getElem?_append_left hi] at hx
      rw [pk_un c, pk_un c, pk_un c, pk_un c, pk_un c]
      exact h3 i x hx
theorem fw_R_rt : ∀ (B : List ew_P) {Lg : List (Int32 × ew_P)} {R : ew_R}, fw_R Lg R → Lg.length + B.length ≤ 64 → fw_R (Lg ++ B.map (fun p => ((4 : Int32), p))) (B.foldl ew_rt R) := by
  intro B
  induction B with
  | nil =>
    intro Lg R h _
    rw [List.map_nil, List.append_nil]
    exact h
  | cons b B ih =>
    intro Lg R h hl
    rw [List.length_cons] at hl
    have h2 := ih (fw_R_em (kd := 4) (p := b) h (by omega)) (by rw [List.length_append]; show Lg.length + 1 + B.length ≤ 64; omega)
    rw [List.append_assoc] at h2
    exact h2
/-- the records: a log of len records, whose sum is that of the panes P and Rt -/
def fw_J (P Rt : List ew_P) (R : ew_R) (len : Nat) : Prop := ∃ Lg, fw_R Lg R ∧ Lg.length = len ∧ (∀ x, x ∈ Lg → (x.1 = 1 ∨ x.1 = 2 ∨ x.1 = 3 ∨ x.1 = 4) ∧ ew_xb x.2) ∧ ∀ f : ew_P → Int64, fw_s (fw_g f) Lg = fw_s f P + fw_s f Rt
theorem fw_J_fi {P Rt : List ew_P} {R : ew_R} {len : Nat} {kd : Int32} {x : ew_P} (h : fw_J P Rt R len) (hk : kd = 1 ∨ kd = 2 ∨ kd = 3) (hx : ew_xb x) (hP : ∀ p, p ∈ P → ew_xb p) (hl : len + (ew_B x P).length + 1 ≤ 64) (hN : (ew_N x P).length < 32) :
    ∃ len', len ≤ len' ∧ len' ≤ len + (ew_B x P).length + 1 ∧ fw_J (ew_fi kd (P, R) x).1 Rt (ew_fi kd (P, R) x).2 len' := by
  by_cases c : ew_B x P = [x]
  · rw [ew_fi_y (st := (P, R)) c]
    exact ⟨len, Nat.le_refl _, by omega, h⟩
  · obtain ⟨Lg, h1, h2, h3, h4⟩ := h
    rw [ew_fi_n (st := (P, R)) c]
    dsimp only
    rw [if_pos hN]
    have r1 := fw_R_rt (ew_B x P) h1 (by omega)
    have r2 := fw_R_em (kd := kd) (p := x) r1 (by rw [List.length_append, List.length_map]; omega)
    refine ⟨len + (ew_B x P).length + 1, by omega, Nat.le_refl _, _, r2, ?_, fun y hy => ?_, fun f => ?_⟩
    · rw [List.length_append, List.length_append, List.length_map, h2]
      rfl
    · rcases List.mem_append.mp hy with z | z
      · rcases List.mem_append.mp z with z | z
        · exact h3 y z
        · obtain ⟨p, hp, rfl⟩ := List.mem_map.mp z
          exact ⟨Or.inr (Or.inr (Or.inr rfl)), hP p (ew_B_m.mp hp).1⟩
      · rw [List.mem_singleton.mp z]
        refine ⟨?_, hx⟩
        rcases hk with e | e | e
        · exact Or.inl e
        · exact Or.inr (Or.inl e)
        · exact Or.inr (Or.inr (Or.inl e))
    · have hk4 : ¬ kd = 4 := by
        rcases hk with e | e | e <;> rw [e] <;> decide
      have g1 : fw_g f (kd, x) = f x := if_neg hk4
      have g2 : fw_s f P = fw_s f (ew_B x P) + fw_s f (ew_N x P) := by
        rw [← fw_s_a]
        exact fw_s_p (ew_BN x P)
      have g3 : fw_s f (ew_ins x (ew_N x P)) = f x + fw_s f (ew_N x P) := fw_s_p (ew_ins_p _ _)
      rw [fw_s_a, fw_s_a, h4 f, fw_s_r, fw_s_1, g1, g2, g3]
      generalize fw_s f (ew_B x P) = a
      generalize fw_s f (ew_N x P) = b
      generalize fw_s f Rt = d
      generalize f x = y
      grind
end
end
section
/-! the picture of the first object, and how the calls move it -/
section
variable {g l W k s : Nat} {E X : List ew_E} {P Rt : List ew_P} {kd : Int32}
theorem fw_cnt {α : Type} {a b c : α → Bool} : ∀ (P : List α), (∀ x, x ∈ P → (a x = true → b x = true → False) ∧ (a x = true → c x = true) ∧ (b x = true → c x = true)) → (P.filter a).length + (P.filter b).length ≤ (P.filter c).length := by
  intro P
  induction P with
  | nil => intro _; exact Nat.le_refl _
  | cons x P ih =>
    intro h
    have IH := ih (fun y hy => h y (List.mem_cons_of_mem _ hy))
    obtain ⟨h1, h2, h3⟩ := h x List.mem_cons_self
    by_cases ca : a x = true
    · have cb : ¬ b x = true := fun z => h1 ca z
      rw [List.filter_cons_of_pos ca, List.filter_cons_of_neg cb, List.filter_cons_of_pos (h2 ca), List.length_cons, List.length_cons]
      omega
    · rw [List.filter_cons_of_neg ca]
      by_cases cb : b x = true
      · rw [List.filter_cons_of_pos cb, List.filter_cons_of_pos (h3 cb), List.length_cons, List.length_cons]
        omega
      · rw [List.filter_cons_of_neg cb]
        by_cases cc : c x = true
        · rw [List.filter_cons_of_pos cc, List.length_cons]
          omega
        · rw [List.filter_cons_of_neg cc]
          exact IH
theorem fw_cnt1 {α : Type} {a c : α → Bool} (P : List α) (h : ∀ x, x ∈ P → a x = true → c x = true) : (P.filter a).length ≤ (P.filter c).length := by
  have := fw_cnt (a := a) (b := fun _ => false) (c := c) P (fun x hx => ⟨fun _ z => (by cases z), h x hx, fun z => (by cases z)⟩)
  omega
def fw_bd (g : Nat) (E : List ew_E) : Prop := 0 < g ∧ g ≤ 1000 ∧ E.length < 32 ∧ ∀ k t, ew_M E k t → k ≤ 7 ∧ t ≤ 1000000
theorem fw_xb (h : fw_bd g E) {p : ew_P} (hp : fw_PJ g (ew_M E) p) : ew_xb p := by
  obtain ⟨m, b, mb, _, _, he⟩ := hp
  have h1 := h.2.2.2 _ _ m
  have h2 := h.2.2.2 _ _ mb
  have h3 := h.2.1
  refine ⟨h1.1, by omega, by omega⟩
noncomputable def fw_bp (g : Nat) (E : List ew_E) (L : List (Nat × Nat)) (p : ew_P) : Bool := ew_dc (∃ ks, ks ∈ L ∧ ew_bl (ew_ss g E ks) p)
theorem fw_ff_J (hb : fw_bd g E) (hk : kd = 1 ∨ kd = 2 ∨ kd = 3) {t : Nat → Bool} : ∀ (L : List (Nat × Nat)) (st : List ew_P × ew_R) (len : Nat), (∀ x, x ∈ L → ew_O g (ew_M E) x.1 x.2) → L.Nodup → fw_K g E st.1 → fw_J st.1 Rt st.2 len → len + L.length + (st.1.filter (fw_bp g E L)).length ≤ 64 →
    ∃ len', len' ≤ len + L.length + (st.1.filter (fw_bp g E L)).length ∧ fw_J (L.foldl (ew_fs kd t g E) st).1 Rt (L.foldl (ew_fs kd t g E) st).2 len' := by
  intro L
  induction L with
  | nil =>
    intro st len _ _ _ hJ _
    exact ⟨len, by omega, hJ⟩
  | cons a L ih =>
    intro st len hO hn hK hJ hl
    have ha := hO a List.mem_cons_self
    obtain ⟨n1, n2⟩ := List.nodup_cons.mp hn
    rw [List.length_cons] at hl ⊢
    rw [List.foldl_cons]
    have hO' : ∀ x, x ∈ L → ew_O g (ew_M E) x.1 x.2 := fun x hx => hO x (List.mem_cons_of_mem _ hx)
    by_cases c : t (ew_ss g E a).2.2.1 = true
    · rw [ew_fs_y c]
      have dis : ∀ p, fw_PJ g (ew_M E) p → ew_bl (ew_ss g E a) p → ¬ fw_bp g E L p = true := by
        intro p hp hbl z
        obtain ⟨ks, hks, hb2⟩ := ew_dcI.mp z
        obtain ⟨_, b, _, _, l1, l2⟩ := hp
        have hg := hb.1
        have := fw_dis (k := a.1) (s := a.2) (k' := ks.1) (s' := ks.2) ha (hO' ks hks) (by omega) hbl hb2
        exact n1 ((Prod.ext this.1 this.2 : a = ks) ▸ hks)
      have c1 : (ew_B (ew_ss g E a) st.1).length + ((ew_N (ew_ss g E a) st.1).filter (fw_bp g E L)).length ≤ (st.1.filter (fw_bp g E (a :: L))).length := by
        unfold ew_B ew_N
        rw [List.filter_filter]
        refine fw_cnt st.1 (fun p hp => ⟨fun z1 z2 => ?_, fun z1 => ew_dcI.mpr ⟨a, List.mem_cons_self, ew_dcI.mp z1⟩, fun z2 => ?_⟩)
        · exact (ew_dcI.mp ((Bool.and_eq_true _ _).mp z2).2) (ew_dcI.mp z1)
        · obtain ⟨ks, hks, hb2⟩ := ew_dcI.mp ((Bool.and_eq_true _ _).mp z2).1
          exact ew_dcI.mpr ⟨ks, List.mem_cons_of_mem _ hks, hb2⟩
      have hN : (ew_N (ew_ss g E a) st.1).length < 32 := by
        have h1 := fw_len hK
        have h2 : (ew_N (ew_ss g E a) st.1).length ≤ st.1.length := List.length_filter_le _ _
        have h3 := hb.2.2.1
        omega
      obtain ⟨len1, _, l1, J1⟩ := fw_J_fi (kd := kd) hJ hk (fw_xb hb (fw_PJ_n (k := a.1) (s := a.2) ha)) (fun p hp => fw_xb hb (hK.2 p hp)) (by show len + (ew_B (ew_ss g E a) st.1).length + 1 ≤ 64; omega) hN
      have l1' : len1 ≤ len + (ew_B (ew_ss g E a) st.1).length + 1 := l1
      have K1 : fw_K g E (ew_fi kd st (ew_ss g E a)).1 := fw_K_fi (P := st.1) (R := st.2) (k := a.1) (s := a.2) hb.1 ha hK
      have c2 : ((ew_fi kd st (ew_ss g E a)).1.filter (fw_bp g E L)).length + (ew_B (ew_ss g E a) st.1).length ≤ (st.1.filter (fw_bp g E (a :: L))).length := by
        by_cases d : ew_B (ew_ss g E a) st.1 = [ew_ss g E a]
        · rw [ew_fi_y d]
          have e1 : st.1.filter (fw_bp g E L) = (ew_N (ew_ss g E a) st.1).filter (fw_bp g E L) := by
            unfold ew_N
            rw [List.filter_filter]
            apply List.filter_congr
            intro p hp
            rw [Bool.eq_iff_iff, Bool.and_eq_true, ew_dcI]
            exact ⟨fun z => ⟨z, fun z2 => dis p (hK.2 p hp) z2 z⟩, fun z => z.1⟩
          rw [e1]
          omega
        · rw [ew_fi_n d]
          dsimp only
          rw [if_pos hN, ((ew_ins_p (ew_ss g E a) (ew_N (ew_ss g E a) st.1)).filter _).length_eq, List.filter_cons_of_neg (dis _ (fw_PJ_n (k := a.1) (s := a.2) ha) (fw_bl_r _))]
          omega
      obtain ⟨len2, l2, J2⟩ := ih (ew_fi kd st (ew_ss g E a)) len1 hO' n2 K1 J1 (by omega)
      exact ⟨len2, by omega, J2⟩
    · rw [ew_fs_n c]
      have c1 : (st.1.filter (fw_bp g E L)).length ≤ (st.1.filter (fw_bp g E (a :: L))).length := by
        refine fw_cnt1 st.1 (fun p _ z => ?_)
        obtain ⟨ks, hks, hb2⟩ := ew_dcI.mp z
        exact ew_dcI.mpr ⟨ks, List.mem_cons_of_mem _ hks, hb2⟩
      obtain ⟨len2, l2, J2⟩ := ih st len hO' n2 hK hJ (by omega)
      exact ⟨len2, by omega, J2⟩
theorem fw_ff_K {t : Nat → Bool} (hg : 0 < g) : ∀ (L : List (Nat × Nat)) (st : List ew_P × ew_R), (∀ x, x ∈ L → ew_O g (ew_M E) x.1 x.2) → fw_K g E st.1 → fw_K g E (L.foldl (ew_fs kd t g E) st).1 := by
  intro L
  induction L with
  | nil => intro st _ h; exact h
  | cons a L ih =>
    intro st hO h
    exact ih _ (fun x hx => hO x (List.mem_cons_of_mem _ hx)) (fw_fs_K hg (hO a List.mem_cons_self) h)
/-- the picture: events E in store, expired events X; panes P, and Rt for the expired sessions -/
def fw_X (g l W : Nat) (E X : List ew_E) (P Rt : List ew_P) : Prop := fw_K g E P ∧ (∀ ks : Nat × Nat, ew_O g (ew_M E) ks.1 ks.2 → (ew_ss g E ks).2.2.1 ≤ W → fw_sy g E P ks) ∧ (∀ k a b, ew_M E k a → ew_M X k b → a + g ≤ b ∨ b + g ≤ a) ∧ (∀ k b, ew_M X k b → b + g + l ≤ W) ∧ fw_SL g X Rt
theorem fw_X_early (hb : fw_bd g E) {L : List (Nat × Nat)} (hL : ∀ x, x ∈ L → ew_O g (ew_M E) x.1 x.2) {R : ew_R} {t : Nat → Bool} (h : fw_X g l W E X P Rt) : fw_X g l W E X (L.foldl (ew_fs kd t g E) (P, R)).1 Rt := by
  obtain ⟨h1, h2, h3, h4, h5⟩ := h
  exact ⟨fw_ff_K hb.1 L (P, R) hL h1, fun ks ho he => fw_ff_sy hb.1 hb.2.2.1 ho L (P, R) hL h1 (Or.inl (h2 ks ho he)), h3, h4, h5⟩
theorem fw_X_fire (hb : fw_bd g E) {L : List (Nat × Nat)} (hL : ∀ x, x ∈ L ↔ ew_O g (ew_M E) x.1 x.2) {R : ew_R} {W' : Nat} (hW : W ≤ W') (h : fw_X g l W E X P Rt) : fw_X g l W' E X (L.foldl (ew_fs kd (fun z => ew_dc (z ≤ W')) g E) (P, R)).1 Rt := by
  obtain ⟨h1, h2, h3, h4, h5⟩ := h
  have hL' : ∀ x, x ∈ L → ew_O g (ew_M E) x.1 x.2 := fun x hx => (hL x).mp hx
  refine ⟨fw_ff_K hb.1 L (P, R) hL' h1, fun ks ho he => fw_ff_sy hb.1 hb.2.2.1 ho L (P, R) hL' h1 (Or.inr ⟨(hL ks).mpr ho, ew_dcI.mpr he⟩), h3, fun k b m => ?_, h5⟩
  have := h4 k b m
  omega
end
end
section
/-! expiring and adding, over the picture -/
section
variable {g l W k s : Nat} {E X : List ew_E} {P Rt : List ew_P} {kd : Int32}
theorem fw_fn {α : Type} (p : α → Bool) (l : List α) : l.Perm (l.filter p ++ l.filter (fun x => ! p x)) := (List.filter_append_perm p l).symm
theorem fw_link {E1 E2 : List ew_E} {a b : Nat} (m : ew_M E1 k a) (m' : ew_M E1 k b) (h : ¬ (a + g ≤ b ∨ b + g ≤ a)) : ew_S g (ew_M E1) k a b := by
  by_cases c : a ≤ b
  · exact ew_lk m c (by omega)
  · exact ew_Ss (ew_lk m' (by omega) (by omega))
/-- what expires and what stays aren't linked -/
theorem fw_kp_sp : fw_sp g E (E.filter (ew_kp g E l W)) (E.filter (fun x => ! ew_kp g E l W x)) := by
  refine ⟨fw_fn _ _, fun k a b ma mb => ?_⟩
  refine Classical.byContradiction fun c => ?_
  obtain ⟨v, h⟩ := ma
  obtain ⟨v', h'⟩ := mb
  obtain ⟨h1, h2⟩ := List.mem_filter.mp h
  obtain ⟨h1', h2'⟩ := List.mem_filter.mp h'
  have s := fw_link (E1 := E) (E2 := E) ⟨v, h1⟩ ⟨v', h1'⟩ c
  have e := ew_kp_S (g := g) (l := l) (W := W) (v := v) (v' := v') ⟨v, h1⟩ ⟨v', h1'⟩ s
  rw [← e, h2] at h2'
  cases h2'
theorem fw_kp_O (ho : ew_O g (ew_M E) k s) {v : Int32} : ew_kp g E l W (k, s, v) = true ↔ ¬ (ew_ss g E (k, s)).2.2.1 + l ≤ W := by
  unfold ew_kp
  rw [ew_dcI]
  dsimp only
  rw [ew_st_e ho.1 ho ew_Sr]
theorem fw_Mv : ew_M (E.filter (fun x => ! ew_kp g E l W x)) k s ↔ ew_M E k s ∧ ew_kp g E l W (k, s, 0) = false := by
  constructor
  · rintro ⟨v, m⟩
    obtain ⟨m1, m2⟩ := List.mem_filter.mp m
    refine ⟨⟨v, m1⟩, ?_⟩
    have : ew_kp g E l W (k, s, v) = false := by
      rw [← Bool.not_eq_true']
      exact m2
    exact this
  · rintro ⟨⟨v, m⟩, h⟩
    refine ⟨v, List.mem_filter.mpr ⟨m, ?_⟩⟩
    have : ew_kp g E l W (k, s, v) = false := h
    rw [this]
    rfl
theorem fw_exp (hb : fw_bd g E) (h : fw_X g l W E X P Rt) : fw_X g l W (E.filter (ew_kp g E l W)) (X ++ E.filter (fun x => ! ew_kp g E l W x)) (P.filter (ew_pp g E l W)) (Rt ++ P.filter (fun p => ! ew_pp g E l W p)) := by
  have hg := hb.1
  obtain ⟨⟨hG, hJ⟩, h2, h3, h4, h5⟩ := h
  have sp : fw_sp g E (E.filter (ew_kp g E l W)) (E.filter (fun x => ! ew_kp g E l W x)) := fw_kp_sp
  have cl := fw_sp_c sp
  refine ⟨⟨ew_exp_G hG, fun p hp => ?_⟩, fun ks ho he => ?_, fun k a b ma mb => ?_, fun k b m => ?_, fw_SL_a hg (fun k a b ma mb => ?_) h5 ?_⟩
  · obtain ⟨p1, p2⟩ := List.mem_filter.mp hp
    have p3 := ew_dcI.mp p2
    obtain ⟨ma, b, mb, sab, le, he⟩ := hJ p p1
    have hk : ew_kp g E l W (p.1, p.2.1, 0) = true := by
      apply ew_dcI.mpr
      dsimp only
      intro c
      obtain ⟨o1, o2⟩ := ew_st_s (g := g) ma
      obtain ⟨b0, m0, s0, e0, l0, x0⟩ := ew_ss_e o1
      refine p3 (p.1, ew_st g (ew_M E) p.1 p.2.1) o1 c ⟨rfl, ew_lo o1 o2, ?_⟩
      rw [e0]
      have := x0 b mb (ew_St o2 sab)
      omega
    have hk2 : ew_kp g E l W (p.1, b, 0) = true := by
      rw [← ew_kp_S (v := 0) ma mb sab]
      exact hk
    have ma' : ew_M (E.filter (ew_kp g E l W)) p.1 p.2.1 := ew_kp_M.mpr ⟨ma, hk⟩
    have mb' : ew_M (E.filter (ew_kp g E l W)) p.1 b := ew_kp_M.mpr ⟨mb, hk2⟩
    exact ⟨ma', b, mb', (fw_S cl ma' mb').mp sab, le, he⟩
  · obtain ⟨ho', hm⟩ := (fw_O cl).mp ho
    have es : ew_ss g E ks = ew_ss g (E.filter (ew_kp g E l W)) ks := fw_sp_ss (k := ks.1) (s := ks.2) sp hg hm
    rw [← es] at he
    have hs := h2 ks ho' he
    unfold fw_sy at hs ⊢
    rw [← es]
    have hk := (fw_kp_O (v := 0) ho').mp ((ew_kp_M (v := 0)).mp hm).2
    have hpp : ew_pp g E l W (ew_ss g E ks) = true := by
      apply ew_dcI.mpr
      intro ks' o' c z
      have := fw_dis (k := ks.1) (s := ks.2) (k' := ks'.1) (s' := ks'.2) ho' o' (ew_pi_new (k := ks.1) (s := ks.2) hg ho').1 (fw_bl_r _) z
      have e2 : ks = ks' := Prod.ext this.1 this.2
      rw [← e2] at c
      exact hk c
    have e3 : ew_B (ew_ss g E ks) (P.filter (ew_pp g E l W)) = (ew_B (ew_ss g E ks) P).filter (ew_pp g E l W) := by
      unfold ew_B
      rw [List.filter_filter, List.filter_filter]
      congr 1
      funext p
      exact Bool.and_comm _ _
    rw [e3, hs, List.filter_cons_of_pos hpp]
    rfl
  · rcases fw_Ma.mp mb with z | z
    · exact h3 k a b (cl.1 k a ma) z
    · exact sp.2 k a b ma z
  · rcases fw_Ma.mp m with z | z
    · exact h4 k b z
    · obtain ⟨z1, z2⟩ := fw_Mv.mp z
      have z3 := Classical.byContradiction fun c => (ew_dcF.mp z2) c
      dsimp only at z3
      obtain ⟨o1, o2⟩ := ew_st_s (g := g) z1
      obtain ⟨b0, m0, s0, e0, l0, x0⟩ := ew_ss_e o1
      rw [e0] at z3
      have := x0 b z1 o2
      omega
  · exact (h3 k b a ((fw_sp_c (fw_sp_s sp)).1 k b mb) ma).symm
  · have cl2 := fw_sp_c (fw_sp_s sp)
    have key : ∀ k s, ew_O g (ew_M E) k s → (ew_ss g E (k, s)).2.2.1 + l ≤ W → ew_O g (ew_M (E.filter (fun x => ! ew_kp g E l W x))) k s ∧ ew_ss g E (k, s) = ew_ss g (E.filter (fun x => ! ew_kp g E l W x)) (k, s) ∧ ew_B (ew_ss g E (k, s)) P = [ew_ss g E (k, s)] := by
      intro k s ho he
      have hm : ew_M (E.filter (fun x => ! ew_kp g E l W x)) k s := by
        refine fw_Mv.mpr ⟨ho.1, ?_⟩
        rw [← Bool.not_eq_true]
        exact fun z => (fw_kp_O ho).mp z he
      exact ⟨(fw_O cl2).mpr ⟨ho, hm⟩, fw_sp_ss (fw_sp_s sp) hg hm, h2 (k, s) ho (by omega)⟩
    refine ⟨fun k s ho => ?_, fun r hr => ?_, ?_⟩
    · obtain ⟨ho', hm⟩ := (fw_O cl2).mp ho
      have he : (ew_ss g E (k, s)).2.2.1 + l ≤ W := Classical.byContradiction fun c => by
        have := (fw_kp_O (v := 0) ho').mpr c
        rw [(fw_Mv.mp hm).2] at this
        cases this
      obtain ⟨_, a2, a3⟩ := key k s ho' he
      rw [← a2]
      have m1 : ew_ss g E (k, s) ∈ ew_B (ew_ss g E (k, s)) P := by
        rw [a3]
        exact List.mem_cons_self
      refine List.mem_filter.mpr ⟨(ew_B_m.mp m1).1, ?_⟩
      have : ew_pp g E l W (ew_ss g E (k, s)) = false := ew_dcF.mpr (fun z => z (k, s) ho' he (fw_bl_r _))
      rw [this]
      rfl
    · obtain ⟨r1, r2⟩ := List.mem_filter.mp hr
      have r3 : ¬ ew_pp g E l W r = true := fun z => by
        rw [z] at r2
        cases r2
      have r4 : ∃ ks : Nat × Nat, ew_O g (ew_M E) ks.1 ks.2 ∧ (ew_ss g E ks).2.2.1 + l ≤ W ∧ ew_bl (ew_ss g E ks) r := by
        refine Classical.byContradiction fun c => r3 (ew_dcI.mpr (fun ks o1 o2 o3 => c ⟨ks, o1, o2, o3⟩))
      obtain ⟨ks, o1, o2, o3⟩ := r4
      obtain ⟨a1, a2, a3⟩ := key ks.1 ks.2 o1 o2
      have m1 : r ∈ ew_B (ew_ss g E (ks.1, ks.2)) P := ew_B_m.mpr ⟨r1, o3⟩
      rw [a3] at m1
      have e1 : r = ew_ss g E (ks.1, ks.2) := List.mem_singleton.mp m1
      have e2 : r.1 = ks.1 := by rw [e1]; rfl
      have e3 : r.2.1 = ks.2 := by rw [e1]; rfl
      rw [e2, e3]
      exact ⟨a1, e1.trans a2⟩
    · refine List.Pairwise.filter _ (List.Pairwise.imp ?_ hG.1)
      intro a b hab z
      unfold ew_pl at hab
      rw [z] at hab
      exact ew_lt_as hab hab
theorem fw_J_exp {R : ew_R} {len : Nat} (p : ew_P → Bool) (h : fw_J P Rt R len) : fw_J (P.filter p) (Rt ++ P.filter (fun x => ! p x)) R len := by
  obtain ⟨Lg, h1, h2, h3, h4⟩ := h
  refine ⟨Lg, h1, h2, h3, fun f => ?_⟩
  rw [h4 f, fw_s_p (fw_fn p P), fw_s_a, fw_s_a]
  generalize fw_s f (P.filter p) = a
  generalize fw_s f Rt = b
  generalize fw_s f (P.filter (fun x => ! p x)) = d
  grind
theorem fw_K_add {E' : List ew_E} (sub : ∀ y, y ∈ E → y ∈ E') (h : fw_K g E P) : fw_K g E' P := by
  have subM : ∀ k t, ew_M E k t → ew_M E' k t := fun k t ⟨v, m⟩ => ⟨v, sub _ m⟩
  refine ⟨ew_add_G sub h.1, fun p hp => ?_⟩
  obtain ⟨ma, b, mb, sab, le, he⟩ := h.2 p hp
  exact ⟨subM _ _ ma, b, subM _ _ mb, ew_mono (subM _) ma mb sab, le, he⟩
theorem fw_add {E' : List ew_E} {x : ew_E} {R : ew_R} (hb : fw_bd g E') (hE : E'.Perm (x :: E)) (hW : W ≤ x.2.1 + l) (h : fw_X g l W E X P Rt) : fw_X g l W E' X (ew_fs kd (fun z => ew_dc (z ≤ W)) g E' (P, R) (x.1, ew_st g (ew_M E') x.1 x.2.1)).1 Rt := by
  have hg := hb.1
  obtain ⟨⟨hG, hJ⟩, h2, h3, h4, h5⟩ := h
  obtain ⟨xk, xt, xv⟩ := x
  dsimp only at hW ⊢
  have mx : ew_M E' xk xt := ⟨xv, hE.mem_iff.mpr List.mem_cons_self⟩
  obtain ⟨o1, o2⟩ := ew_st_s (g := g) mx
  have sub : ∀ y, y ∈ E → y ∈ E' := fun y hy => hE.mem_iff.mpr (List.mem_cons_of_mem _ hy)
  have subM : ∀ k t, ew_M E k t → ew_M E' k t := fun k t ⟨v, m⟩ => ⟨v, sub _ m⟩
  have hK' : fw_K g E' P := by
    refine ⟨ew_add_G sub hG, fun p hp => ?_⟩
    obtain ⟨ma, b, mb, sab, le, he⟩ := hJ p hp
    exact ⟨subM _ _ ma, b, subM _ _ mb, ew_mono (subM _) ma mb sab, le, he⟩
  have cI : ∀ k t v, ew_cl g E' xk xt (k, t, v) = true ↔ k = xk ∧ ew_S g (ew_M E') xk xt t := fun k t v => ew_dcI
  have un : ∀ k a b, ew_M (E.filter (fun y => ! ew_cl g E' xk xt y)) k a → ew_M E' k b → (k = xk ∧ ew_S g (ew_M E') xk xt b) → a + g ≤ b ∨ b + g ≤ a := by
    intro k a b ⟨v, m⟩ mb hc
    refine Classical.byContradiction fun c => ?_
    obtain ⟨m1, m2⟩ := List.mem_filter.mp m
    have s := fw_link (E1 := E') (E2 := E') (subM k a ⟨v, m1⟩) mb c
    obtain ⟨c1, c2⟩ := hc
    have : ew_cl g E' xk xt (k, a, v) = true := (cI k a v).mpr ⟨c1, ew_St c2 (by rw [← c1]; exact ew_Ss s)⟩
    rw [this] at m2
    cases m2
  have inC : ∀ k b, ew_M (E.filter (ew_cl g E' xk xt)) k b → ew_M E' k b ∧ (k = xk ∧ ew_S g (ew_M E') xk xt b) := by
    intro k b ⟨v, m⟩
    obtain ⟨m1, m2⟩ := List.mem_filter.mp m
    exact ⟨subM k b ⟨v, m1⟩, (cI k b v).mp m2⟩
  have sp : fw_sp g E (E.filter (fun y => ! ew_cl g E' xk xt y)) (E.filter (ew_cl g E' xk xt)) :=
    ⟨(fw_fn (ew_cl g E' xk xt) E).trans List.perm_append_comm, fun k a b ma mb => un k a b ma (inC k b mb).1 (inC k b mb).2⟩
  have sp' : fw_sp g E' (E.filter (fun y => ! ew_cl g E' xk xt y)) ((xk, xt, xv) :: E.filter (ew_cl g E' xk xt)) := by
    refine ⟨?_, fun k a b ma mb => ?_⟩
    · refine hE.trans (((fw_fn (ew_cl g E' xk xt) E).cons _).trans ?_)
      exact (List.perm_append_comm (l₁ := (xk, xt, xv) :: E.filter (ew_cl g E' xk xt)) (l₂ := E.filter (fun y => ! ew_cl g E' xk xt y)))
    · obtain ⟨v, m⟩ := mb
      rcases List.mem_cons.mp m with z | z
      · have z1 : k = xk := congrArg Prod.fst z
        have z2 : b = xt := congrArg (fun y : ew_E => y.2.1) z
        subst z1 z2
        exact un _ a _ ma mx ⟨rfl, ew_Sr⟩
      · exact un k a b ma (inC k b ⟨v, z⟩).1 (inC k b ⟨v, z⟩).2
  refine ⟨fw_fs_K (st := (P, R)) hg o1 hK', fun ks ho he => ?_, fun k a b ma mb => ?_, h4, h5⟩
  · refine fw_fs_sy (st := (P, R)) hg hb.2.2.1 hK' ho o1 ?_
    by_cases c : ks = (xk, ew_st g (ew_M E') xk xt)
    · exact Or.inr ⟨c, ew_dcI.mpr he⟩
    · refine Or.inl ?_
      rcases (fw_sp_O sp').mp ho with z | z
      · have e1 : ew_ss g E' ks = ew_ss g (E.filter (fun y => ! ew_cl g E' xk xt y)) ks := fw_sp_ss (k := ks.1) (s := ks.2) sp' hg z.1
        have e2 : ew_ss g E ks = ew_ss g (E.filter (fun y => ! ew_cl g E' xk xt y)) ks := fw_sp_ss (k := ks.1) (s := ks.2) sp hg z.1
        rw [e1, ← e2] at he
        have := h2 ks ((fw_sp_O sp).mpr (Or.inl z)) he
        unfold fw_sy at this ⊢
        rw [e1, ← e2]
        exact this
      · exfalso
        obtain ⟨v, m⟩ := z.1
        have hs : ks.1 = xk ∧ ew_S g (ew_M E') xk xt ks.2 := by
          rcases List.mem_cons.mp m with y | y
          · have y1 : ks.1 = xk := congrArg Prod.fst y
            have y2 : ks.2 = xt := congrArg (fun w : ew_E => w.2.1) y
            rw [y2]
            exact ⟨y1, ew_Sr⟩
          · exact (inC ks.1 ks.2 ⟨v, y⟩).2
        obtain ⟨s1, s2⟩ := hs
        have ho2 := ho
        rw [s1] at ho2
        exact c (Prod.ext s1 (ew_O1 ho2 o1 (ew_St (ew_Ss s2) (ew_Ss o2))))
  · obtain ⟨v, m⟩ := ma
    rcases List.mem_cons.mp (hE.mem_iff.mp m) with z | z
    · have z2 : a = xt := congrArg (fun y : ew_E => y.2.1) z
      have := h4 k b mb
      omega
    · exact h3 k a b ⟨v, z⟩ mb
theorem fw_X0 (hg : 0 < g) : fw_X g l 0 [] [] [] [] := by
  have no : ∀ k t, ¬ ew_M [] k t := fun k t ⟨_, m⟩ => absurd m List.not_mem_nil
  exact ⟨⟨⟨List.Pairwise.nil, fun p hp => absurd hp List.not_mem_nil, Nat.zero_le _⟩, fun p hp => absurd hp List.not_mem_nil⟩, fun ks ho => absurd ho.1 (no _ _), fun k a b m => absurd m (no _ _), fun k b m => absurd m (no _ _), fun k s ho => absurd ho.1 (no _ _), fun r hr => absurd hr List.not_mem_nil, List.Pairwise.nil⟩
end
end
section
/-! the law's last loops: records against sessions -/
section
def fw_m (y p : ew_P) : Prop := p.1 = y.1 ∧ p.2.1 = y.2.1 ∧ p.2.2.1 = y.2.2.1
noncomputable def fw_fc (y p : ew_P) : Int64 := if ew_dc (fw_m y p) = true then 1 else 0
noncomputable def fw_fv (y p : ew_P) : Int64 := if ew_dc (fw_m y p) = true then p.2.2.2.toInt64 else 0
variable {g n m bn bm : Nat} {l w D c bD bc : Int32} {ak aT av pk ps pe pv r1 r2 r3 r4 r5 bk bT bv b4 b5 b6 b7 q1 q2 q3 q4 q5 : Nat → Int32} {f : Nat → ew_E} {R : ew_R} {Lg : List (Int32 × ew_P)} {y : ew_P}
theorem xq_rec {i : Nat} {x : Int32 × ew_P} {post : Int32 → Prop} {z : Int32} (h : fw_R Lg R) (hi : Lg[i]? = some x) (hz : z = 0 ∧ post x.1 ∨ z = 1 ∧ post (nI x.2.1) ∨ z = 2 ∧ post (nI x.2.2.1) ∨ z = 3 ∧ post (nI x.2.2.2.1) ∨ z = 4 ∧ post x.2.2.2.2) : wpX_recordField post (nI g, l, w, D, nI n, nI m, R.2.2.2.2.2, ak, aT, av, pk, ps, pe, pv, R.1, R.2.1, R.2.2.1, R.2.2.2.1, R.2.2.2.2.1) (nI i) z := by
  obtain ⟨h1, h2, h3⟩ := h
  have hl := (List.getElem?_eq_some_iff.mp hi).1
  obtain ⟨k1, k2, k3, k4, k5⟩ := h3 i x hi
  have e1 : nI i &&& 63 = nI i := by
    rw [pk_and _ 6 (by decide), pk_tn (by omega), Nat.mod_eq_of_lt (by omega)]
  have v1 : vp_in (nI i) 64 := vp_in_nI (by omega) (by omega)
  have c1 : (nI i).toNatClampNeg = i := nI_clamp (by omega)
  have g2 : ¬ R.2.2.2.2.2 ≤ nI i := by
    rw [h2]
    exact nI_ge hl (by omega)
  have g3 : R.2.2.2.2.2 - 64 ≤ nI i := by
    rw [h2]
    show nI Lg.length - nI 64 ≤ nI i
    rw [Int32.le_iff_toInt_le, pk_sub_toInt (by omega) (by omega), nI_toInt (by omega)]
    omega
  refine br_f (nI_pos (by omega)) (br_f g2 (br_t g3 (nm_r e1 ?_)))
  rw [c1, k1, k2, k3, k4, k5]
  rcases hz with ⟨rfl, hp⟩ | ⟨rfl, hp⟩ | ⟨rfl, hp⟩ | ⟨rfl, hp⟩ | ⟨rfl, hp⟩
  · exact br_f (by decide) (br_f (by decide) (br_t rfl ⟨v1, hp⟩))
  · exact br_f (by decide) (br_f (by decide) (br_f (by decide) (br_t rfl ⟨v1, hp⟩)))
  · exact br_f (by decide) (br_f (by decide) (br_f (by decide) (br_f (by decide) (br_t rfl ⟨v1, hp⟩))))
  · exact br_f (by decide) (br_f (by decide) (br_f (by decide) (br_f (by decide) (br_f (by decide) (br_t rfl ⟨v1, hp⟩)))))
  · exact br_f (by decide) (br_f (by decide) (br_f (by decide) (br_f (by decide) (br_f (by decide) (br_f (by decide) (br_t rfl ⟨v1, hp⟩))))))
/-- a field of the second object's session at place j -/
theorem xq_ses {j : Nat} {s : ew_P} {z : Int32} {post : Int32 → Prop} (H : ew_ev g bn f bk bT bv) (Hs : ew_srt f bn) (hs : ((ew_xl g f bn).map (ew_ss g (ew_L f bn)))[j]? = some s) (hz : z = 1 ∧ post (nI s.1) ∨ z = 2 ∧ post (nI s.2.1) ∨ z = 3 ∧ post (nI s.2.2.1) ∨ z = 4 ∧ post s.2.2.2) : wpX_sessionField post (nI g, nI 0, nI 0, bD, nI bn, nI bm, bc, bk, bT, bv, b4, b5, b6, b7, q1, q2, q3, q4, q5) (nI j) z := by
  have hle : (ew_xl g f bn).length ≤ bn := by
    rw [ew_xl_l]
    exact ew_ct_le _ bn
  have hn := H.2.2.1
  have hj : j < (ew_xl g f bn).length := by
    have := (List.getElem?_eq_some_iff.mp hs).1
    rw [List.length_map] at this
    exact this
  refine xq_sess H Hs (fun x ks hx h1 h2 => ?_) (fun hno => absurd rfl (hno j hj))
  have e1 : j = x := (nI_eq (by omega) (by omega)).mp hx
  rw [List.getElem?_map, e1, h2] at hs
  have e2 : ew_ss g (ew_L f bn) ks = s := Option.some.inj hs
  rw [e2]
  unfold ew_sf
  rcases hz with ⟨rfl, hp⟩ | ⟨rfl, hp⟩ | ⟨rfl, hp⟩ | ⟨rfl, hp⟩
  · exact hp
  · exact hp
  · exact hp
  · exact hp
theorem fw_s_0 {α : Type} {h : α → Int64} : ∀ l : List α, (∀ x, x ∈ l → h x = 0) → fw_s h l = 0 := by
  intro l
  induction l with
  | nil => intro _; rfl
  | cons a l ih =>
    intro hz
    rw [fw_s_c, hz a List.mem_cons_self, ih (fun x hx => hz x (List.mem_cons_of_mem _ hx))]
    rfl
theorem fw_s_t {α : Type} {h : α → Int64} {l : List α} {q : Nat} {x : α} (hx : l[q]? = some x) : fw_s h (l.take (q + 1)) = fw_s h (l.take q) + h x := by
  rw [List.take_succ, hx, fw_s_a]
  exact congrArg _ fw_s_1
section
variable {L : Nat} {xs : Nat → Int32} {J : Int32 → Prop} {i len nb kc ks : Nat} {post : Int32 → Prop}
theorem fw_509 (H : ew_ev g bn f bk bT bv) (Hs : ew_srt f bn) (hy : ew_xb y) (hb : ∀ s, s ∈ (ew_xl g f bn).map (ew_ss g (ew_L f bn)) → ew_xb s) (hpw : ((ew_xl g f bn).map (ew_ss g (ew_L f bn))).Pairwise (fun a b => ew_pk a ≠ ew_pk b)) (hnb : nb = ((ew_xl g f bn).map (ew_ss g (ew_L f bn))).length) (hnb2 : nb ≤ 32) (K : J (nI (i + 1))) :
    ∀ d j, j + d = nb → wL_law_509 post L xs J (nI len) (nI nb) (nI i) (nI y.1) (nI y.2.1) (nI y.2.2.1) (fw_s (fw_fc y) ((ew_xl g f bn).map (ew_ss g (ew_L f bn)))) (fw_s (fw_fv y) ((ew_xl g f bn).map (ew_ss g (ew_L f bn)))) kc ks (nI g) l w D (nI n) (nI m) R.2.2.2.2.2 ak aT av pk ps pe pv R.1 R.2.1 R.2.2.1 R.2.2.2.1 R.2.2.2.2.1 (nI g) (nI 0) (nI 0) bD (nI bn) (nI bm) bc bk bT bv b4 b5 b6 b7 q1 q2 q3 q4 q5 (d + 1) (fw_s (fw_fc y) (((ew_xl g f bn).map (ew_ss g (ew_L f bn))).take j)) (fw_s (fw_fv y) (((ew_xl g f bn).map (ew_ss g (ew_L f bn))).take j)) (nI j) := by
  intro d
  induction d with
  | zero =>
    intro j hj
    rw [List.take_of_length_le (by omega)]
    exact br_t (nI_le (by omega) (by omega)) (br_t rfl (br_t rfl (nm_r (nI_1 i) K)))
  | succ d ih =>
    intro j hj
    have IH := ih (j + 1) (by omega)
    obtain ⟨s, hs⟩ : ∃ s, ((ew_xl g f bn).map (ew_ss g (ew_L f bn)))[j]? = some s := ⟨_, List.getElem?_eq_getElem (by omega)⟩
    have bs := hb s (List.mem_of_getElem? hs)
    obtain ⟨b1, b2, b3⟩ := bs
    obtain ⟨y1, y2, y3⟩ := id hy
    rw [fw_s_t hs, fw_s_t hs] at IH
    have no : ¬ fw_m y s → wL_law_509 post L xs J (nI len) (nI nb) (nI i) (nI y.1) (nI y.2.1) (nI y.2.2.1) (fw_s (fw_fc y) ((ew_xl g f bn).map (ew_ss g (ew_L f bn)))) (fw_s (fw_fv y) ((ew_xl g f bn).map (ew_ss g (ew_L f bn)))) kc ks (nI g) l w D (nI n) (nI m) R.2.2.2.2.2 ak aT av pk ps pe pv R.1 R.2.1 R.2.2.1 R.2.2.2.1 R.2.2.2.2.1 (nI g) (nI 0) (nI 0) bD (nI bn) (nI bm) bc bk bT bv b4 b5 b6 b7 q1 q2 q3 q4 q5 (d + 1) (fw_s (fw_fc y) (((ew_xl g f bn).map (ew_ss g (ew_L f bn))).take j)) (fw_s (fw_fv y) (((ew_xl g f bn).map (ew_ss g (ew_L f bn))).take j)) (nI (j + 1)) := by
      intro hm
      have e1 : fw_fc y s = 0 := if_neg (fun z => hm (ew_dcI.mp z))
      have e2 : fw_fv y s = 0 := if_neg (fun z => hm (ew_dcI.mp z))
      rw [e1, e2, Int64.add_zero, Int64.add_zero] at IH
      exact IH
    refine br_f (nI_ge (by omega) (by omega)) (xq_ses H Hs hs (Or.inl ⟨rfl, ek_if (nI_eq (by omega) (by omega)) (fun z1 => xq_ses H Hs hs (Or.inr (Or.inl ⟨rfl, ek_if (nI_eq (by omega) (by omega)) (fun z2 => xq_ses H Hs hs (Or.inr (Or.inr (Or.inl ⟨rfl, ek_if (nI_eq (by omega) (by omega)) (fun z3 => xq_ses H Hs hs (Or.inr (Or.inr (Or.inr ⟨rfl, nm_r (nI_1 j) ?_⟩)))) (fun z3 => nm_r (nI_1 j) (no (fun z => z3 z.2.2)))⟩)))) (fun z2 => nm_r (nI_1 j) (no (fun z => z2 z.2.1)))⟩))) (fun z1 => nm_r (nI_1 j) (no (fun z => z1 z.1)))⟩))
    have hm : fw_m y s := ⟨z1, z2, z3⟩
    have e1 : fw_fc y s = 1 := if_pos (ew_dcI.mpr hm)
    have e2 : fw_fv y s = s.2.2.2.toInt64 := if_pos (ew_dcI.mpr hm)
    have none : ∀ x, x ∈ ((ew_xl g f bn).map (ew_ss g (ew_L f bn))).take j → ¬ fw_m y x := by
      intro x hx hmx
      have hsp := hpw
      rw [← List.take_append_drop j ((ew_xl g f bn).map (ew_ss g (ew_L f bn)))] at hsp
      have hd : s ∈ ((ew_xl g f bn).map (ew_ss g (ew_L f bn))).drop j := by
        refine List.mem_of_getElem? (i := 0) ?_
        rw [List.getElem?_drop, Nat.add_zero]
        exact hs
      exact (List.pairwise_append.mp hsp).2.2 x hx s hd (Prod.ext (hmx.1.trans z1.symm) (hmx.2.1.trans z2.symm))
    have o1 : fw_s (fw_fc y) (((ew_xl g f bn).map (ew_ss g (ew_L f bn))).take j) = 0 := fw_s_0 _ (fun x hx => if_neg (fun z => none x hx (ew_dcI.mp z)))
    have o2 : fw_s (fw_fv y) (((ew_xl g f bn).map (ew_ss g (ew_L f bn))).take j) = 0 := fw_s_0 _ (fun x hx => if_neg (fun z => none x hx (ew_dcI.mp z)))
    rw [o1, o2, e1, e2, Int64.zero_add, Int64.zero_add] at IH
    exact IH
theorem fw_400 (H : ew_ev g bn f bk bT bv) (Hs : ew_srt f bn) (hy : ew_xb y) (hb : ∀ s, s ∈ (ew_xl g f bn).map (ew_ss g (ew_L f bn)) → ew_xb s) (hpw : ((ew_xl g f bn).map (ew_ss g (ew_L f bn))).Pairwise (fun a b => ew_pk a ≠ ew_pk b)) (hnb : nb = ((ew_xl g f bn).map (ew_ss g (ew_L f bn))).length) (hnb2 : nb ≤ 32) (K : J (nI (i + 1)))
    (hR : fw_R Lg R) (hlen : len = Lg.length) (hLb : ∀ x, x ∈ Lg → ew_xb x.2) (hsum : ∀ h : ew_P → Int64, fw_s (fw_g h) Lg = fw_s h ((ew_xl g f bn).map (ew_ss g (ew_L f bn)))) :
    ∀ d q, q + d = len → wL_law_400 post L xs J (nI len) (nI nb) (nI i) (nI y.1) (nI y.2.1) (nI y.2.2.1) kc ks (nI g) l w D (nI n) (nI m) R.2.2.2.2.2 ak aT av pk ps pe pv R.1 R.2.1 R.2.2.1 R.2.2.2.1 R.2.2.2.2.1 (nI g) (nI 0) (nI 0) bD (nI bn) (nI bm) bc bk bT bv b4 b5 b6 b7 q1 q2 q3 q4 q5 (d + 1) (fw_s (fw_g (fw_fc y)) (Lg.take q)) (fw_s (fw_g (fw_fv y)) (Lg.take q)) (nI q) := by
  have h64 := hR.1
  intro d
  induction d with
  | zero =>
    intro q hq
    rw [List.take_of_length_le (by omega), hsum, hsum]
    exact br_t (nI_le (by omega) (by omega)) ⟨nb + 1, fw_509 H Hs hy hb hpw hnb hnb2 K nb 0 (by omega)⟩
  | succ d ih =>
    intro q hq
    have IH := ih (q + 1) (by omega)
    obtain ⟨s, hs⟩ : ∃ s, Lg[q]? = some s := ⟨_, List.getElem?_eq_getElem (by omega)⟩
    have bs := hLb s (List.mem_of_getElem? hs)
    obtain ⟨b1, b2, b3⟩ := bs
    obtain ⟨y1, y2, y3⟩ := id hy
    rw [fw_s_t hs, fw_s_t hs] at IH
    have no : ¬ fw_m y s.2 → wL_law_400 post L xs J (nI len) (nI nb) (nI i) (nI y.1) (nI y.2.1) (nI y.2.2.1) kc ks (nI g) l w D (nI n) (nI m) R.2.2.2.2.2 ak aT av pk ps pe pv R.1 R.2.1 R.2.2.1 R.2.2.2.1 R.2.2.2.2.1 (nI g) (nI 0) (nI 0) bD (nI bn) (nI bm) bc bk bT bv b4 b5 b6 b7 q1 q2 q3 q4 q5 (d + 1) (fw_s (fw_g (fw_fc y)) (Lg.take q)) (fw_s (fw_g (fw_fv y)) (Lg.take q)) (nI (q + 1)) := by
      intro hm
      have e1 : fw_fc y s.2 = 0 := if_neg (fun z => hm (ew_dcI.mp z))
      have e2 : fw_fv y s.2 = 0 := if_neg (fun z => hm (ew_dcI.mp z))
      have e3 : fw_g (fw_fc y) s = 0 := by
        unfold fw_g
        rw [e1]
        split <;> rfl
      have e4 : fw_g (fw_fv y) s = 0 := by
        unfold fw_g
        rw [e2]
        split <;> rfl
      rw [e3, e4, Int64.add_zero, Int64.add_zero] at IH
      exact IH
    refine br_f (nI_ge (by omega) (by omega)) (xq_rec hR hs (Or.inr (Or.inl ⟨rfl, ek_if (nI_eq (by omega) (by omega)) (fun z1 => xq_rec hR hs (Or.inr (Or.inr (Or.inl ⟨rfl, ek_if (nI_eq (by omega) (by omega)) (fun z2 => xq_rec hR hs (Or.inr (Or.inr (Or.inr (Or.inl ⟨rfl, ek_if (nI_eq (by omega) (by omega)) (fun z3 => xq_rec hR hs (Or.inr (Or.inr (Or.inr (Or.inr ⟨rfl, xq_rec hR hs (Or.inl ⟨rfl, ?_⟩)⟩))))) (fun z3 => nm_r (nI_1 q) (no (fun z => z3 z.2.2)))⟩))))) (fun z2 => nm_r (nI_1 q) (no (fun z => z2 z.2.1)))⟩)))) (fun z1 => nm_r (nI_1 q) (no (fun z => z1 z.1)))⟩)))
    have hm : fw_m y s.2 := ⟨z1, z2, z3⟩
    have e1 : fw_fc y s.2 = 1 := if_pos (ew_dcI.mpr hm)
    have e2 : fw_fv y s.2 = s.2.2.2.2.toInt64 := if_pos (ew_dcI.mpr hm)
    unfold fw_g at IH
    rw [e1, e2] at IH
    refine br_c (fun z4 => nm_r (Int64.sub_eq_add_neg _ _) (nm_r (Int64.sub_eq_add_neg _ _) (nm_r (nI_1 q) ?_))) (fun z4 => nm_e (nm_e (nm_r (nI_1 q) ?_)))
    · rw [if_pos z4, if_pos z4] at IH
      exact IH
    · rw [if_neg z4, if_neg z4] at IH
      exact IH
theorem fw_285 (H : ew_ev g bn f bk bT bv) (Hs : ew_srt f bn) (hb : ∀ s, s ∈ (ew_xl g f bn).map (ew_ss g (ew_L f bn)) → ew_xb s) (hpw : ((ew_xl g f bn).map (ew_ss g (ew_L f bn))).Pairwise (fun a b => ew_pk a ≠ ew_pk b)) (hnb : nb = ((ew_xl g f bn).map (ew_ss g (ew_L f bn))).length) (hnb2 : nb ≤ 32)
    (hR : fw_R Lg R) (hlen : len = Lg.length) (hLb : ∀ x, x ∈ Lg → (x.1 = 1 ∨ x.1 = 2 ∨ x.1 = 3 ∨ x.1 = 4) ∧ ew_xb x.2) (hsum : ∀ h : ew_P → Int64, fw_s (fw_g h) Lg = fw_s h ((ew_xl g f bn).map (ew_ss g (ew_L f bn)))) (hpost : post 1) :
    ∀ d i, i + d = len + nb → wL_law_285 post L xs (nI len) (nI nb) kc ks (nI g) l w D (nI n) (nI m) R.2.2.2.2.2 ak aT av pk ps pe pv R.1 R.2.1 R.2.2.1 R.2.2.2.1 R.2.2.2.2.1 (nI g) (nI 0) (nI 0) bD (nI bn) (nI bm) bc bk bT bv b4 b5 b6 b7 q1 q2 q3 q4 q5 (d + 1) (nI i) := by
  have h64 := hR.1
  have hLb' : ∀ x, x ∈ Lg → ew_xb x.2 := fun x hx => (hLb x hx).2
  intro d
  induction d with
  | zero =>
    intro i hi
    refine br_t ?_ hpost
    rw [nI_add]
    exact nI_le (by omega) (by omega)
  | succ d ih =>
    intro i hi
    have IH := ih (i + 1) (by omega)
    refine br_f ?_ (ek_if (nI_leI (by omega) (by omega)) (fun z => ?_) (fun z => ?_))
    · rw [nI_add]
      exact nI_ge (by omega) (by omega)
    · rw [pk_sub z]
      obtain ⟨s, hs⟩ : ∃ s, ((ew_xl g f bn).map (ew_ss g (ew_L f bn)))[i - len]? = some s := ⟨_, List.getElem?_eq_getElem (by omega)⟩
      exact xq_ses H Hs hs (Or.inl ⟨rfl, xq_ses H Hs hs (Or.inr (Or.inl ⟨rfl, xq_ses H Hs hs (Or.inr (Or.inr (Or.inl ⟨rfl, len + 1, fw_400 H Hs (hb s (List.mem_of_getElem? hs)) hb hpw hnb hnb2 IH hR hlen hLb' hsum len 0 (by omega)⟩)))⟩))⟩)
    · obtain ⟨s, hs⟩ : ∃ s, Lg[i]? = some s := ⟨_, List.getElem?_eq_getElem (by omega)⟩
      have hk := (hLb s (List.mem_of_getElem? hs)).1
      have k1 : ¬ s.1 < 1 := by rcases hk with e | e | e | e <;> rw [e] <;> decide
      have k2 : s.1 ≤ 4 := by rcases hk with e | e | e | e <;> rw [e] <;> decide
      exact xq_rec hR hs (Or.inl ⟨rfl, br_f k1 (br_t k2 (xq_rec hR hs (Or.inr (Or.inl ⟨rfl, xq_rec hR hs (Or.inr (Or.inr (Or.inl ⟨rfl, xq_rec hR hs (Or.inr (Or.inr (Or.inr (Or.inl ⟨rfl, len + 1, fw_400 H Hs (hLb' s (List.mem_of_getElem? hs)) hb hpw hnb hnb2 IH hR hlen hLb' hsum len 0 (by omega)⟩))))⟩)))⟩))))⟩)
end
end
end
section
/-! the law's end -/
section
variable {g lt W n m bn bm ad len kc ks L : Nat} {D bD bc : Int32} {ak aT av pk ps pe pv bk bT bv b4 b5 b6 b7 q1 q2 q3 q4 q5 : Nat → Int32} {e f : Nat → ew_E} {p pb : Nat → ew_P} {X : List ew_E} {Rt : List ew_P} {R : ew_R} {xs : Nat → Int32} {l w c : Int32} {r1 r2 r3 r4 r5 : Nat → Int32}
theorem xa_wm {post : Int32 → Prop} (h : post w) : wpX_watermark post (nI g, l, w, D, nI n, nI m, c, ak, aT, av, pk, ps, pe, pv, r1, r2, r3, r4, r5) := h
theorem xa_rc {post : Int32 → Prop} (h : post c) : wpX_recordCount post (nI g, l, w, D, nI n, nI m, c, ak, aT, av, pk, ps, pe, pv, r1, r2, r3, r4, r5) := h
theorem xa_se {post : Int32 → Prop} (h : post (nI n)) : wpX_storedEvents post (nI g, l, w, D, nI n, nI m, c, ak, aT, av, pk, ps, pe, pv, r1, r2, r3, r4, r5) := h
theorem xa_pc {post : Int32 → Prop} (h : post (nI m)) : wpX_paneCount post (nI g, l, w, D, nI n, nI m, c, ak, aT, av, pk, ps, pe, pv, r1, r2, r3, r4, r5) := h
theorem xa_gp {post : Int32 → Prop} (h : post (nI g)) : wpX_gap post (nI g, l, w, D, nI n, nI m, c, ak, aT, av, pk, ps, pe, pv, r1, r2, r3, r4, r5) := h
def fw_I (g lt W n m bn bm ad len : Nat) (e f : Nat → ew_E) (p pb : Nat → ew_P) (X : List ew_E) (Rt : List ew_P) (R : ew_R) (ak aT av pk ps pe pv bk bT bv b4 b5 b6 b7 : Nat → Int32) : Prop :=
  ew_ok g lt W n e ∧ ew_srt e n ∧ ew_aE n e ak aT av ∧ ew_pa m p pk ps pe pv ∧ fw_X g lt W (ew_L e n) X (ew_L p m) Rt ∧ fw_J (ew_L p m) Rt R len ∧ ew_ok g 0 0 bn f ∧ ew_srt f bn ∧ ew_aE bn f bk bT bv ∧ ew_pa bm pb b4 b5 b6 b7 ∧ ew_G g (ew_L f bn) (ew_L pb bm) ∧ bn = ad ∧ ad ≤ 10 ∧ (ew_L f bn).Perm (ew_L e n ++ X)
theorem fw_bd_ok (h : ew_ok g lt W n e) (hn : n < 32) : fw_bd g (ew_L e n) := ⟨h.1, h.2.1, by rw [ew_Ll]; exact hn, fun k t m => ew_okM h m⟩
theorem fw_n10 (hp : (ew_L f bn).Perm (ew_L e n ++ X)) : bn = n + X.length := by
  have := hp.length_eq
  rw [List.length_append, ew_Ll, ew_Ll] at this
  exact this
/-- one call's records: no more than panes and sessions -/
theorem fw_Jx {kd : Int32} {t : Nat → Bool} (hok : ew_ok g lt W n e) (Hs : ew_srt e n) (hn : n ≤ 10) (hk : kd = 1 ∨ kd = 2 ∨ kd = 3) (hK : fw_K g (ew_L e n) (ew_L p m)) (hJ : fw_J (ew_L p m) Rt R len) (hl : len ≤ 44) : ∃ len', len' ≤ len + 20 ∧ fw_J ((ew_xl g e n).foldl (ew_fs kd t g (ew_L e n)) (ew_L p m, R)).1 Rt ((ew_xl g e n).foldl (ew_fs kd t g (ew_L e n)) (ew_L p m, R)).2 len' := by
  have hle : (ew_xl g e n).length ≤ n := by
    rw [ew_xl_l]
    exact ew_ct_le _ n
  have h1 := fw_len hK
  have h0 := ew_Ll e n
  have h2 := List.length_filter_le (fw_bp g (ew_L e n) (ew_xl g e n)) (ew_L p m)
  obtain ⟨len', a, b⟩ := fw_ff_J (fw_bd_ok hok (by omega)) hk (t := t) (ew_xl g e n) (ew_L p m, R) len (fun x hx => ew_xl_O Hs (Nat.le_refl _) hx) (ew_xl_n' Hs hok.1) hK hJ (by show len + (ew_xl g e n).length + ((ew_L p m).filter (fw_bp g (ew_L e n) (ew_xl g e n))).length ≤ 64; omega)
  have a' : len' ≤ len + (ew_xl g e n).length + ((ew_L p m).filter (fw_bp g (ew_L e n) (ew_xl g e n))).length := a
  exact ⟨len', by omega, b⟩
theorem fw_end (hI : fw_I g lt W n m bn bm ad len e f p pb X Rt R ak aT av pk ps pe pv bk bT bv b4 b5 b6 b7) (hl : len ≤ 44) (hW : W ≤ 4800) : wL_law_231 (fun r => r = 1) L xs kc ks (nI g) (nI lt) (nI W) D (nI n) (nI m) R.2.2.2.2.2 ak aT av pk ps pe pv R.1 R.2.1 R.2.2.1 R.2.2.2.1 R.2.2.2.2.1 (nI g) (nI 0) (nI 0) bD (nI bn) (nI bm) bc bk bT bv b4 b5 b6 b7 q1 q2 q3 q4 q5 := by
  obtain ⟨hok, Hs, hE, HP, hX, hJ, hokb, Hsb, hEb, HPb, HGb, had, had2, hperm⟩ := hI
  have hbn := fw_n10 hperm
  have hn : n ≤ 10 := by omega
  have hb := fw_bd_ok hok (by omega)
  obtain ⟨o1, o2, o3, o4, o5, o6⟩ := id hok
  refine xa_adv hok Hs hE HP hX.1.1 (W' := 2100000) (by omega) (Nat.le_refl _) (fun nc mc c p' R' ak aT av pk ps pe pv h1 h2 h3 h4 => ?_)
  obtain ⟨len1, l1, J1⟩ := fw_Jx (kd := 2) (t := fun z => ew_dc (z ≤ 2100000)) hok Hs hn (Or.inr (Or.inl rfl)) hX.1 hJ hl
  have X1 := fw_X_fire (kd := 2) (R := R) (W' := 2100000) hb (fun x => ew_xl_m Hs o1) (by omega) hX
  have X2 := fw_exp hb X1
  have J2 := fw_J_exp (ew_pp g (ew_L e n) lt 2100000) J1
  have kp0 : (ew_L e n).filter (ew_kp g (ew_L e n) lt 2100000) = [] := by
    refine ew_filt_none (fun y hy => ?_)
    obtain ⟨i, hi, rfl⟩ := ew_Lm.mp hy
    rw [ew_kp_k]
    refine ew_dcF.mpr (fun z => z ?_)
    have := ew_okS hok (ew_ks_O (g := g) (e := e) hi)
    omega
  have fnE := fw_fn (ew_kp g (ew_L e n) lt 2100000) (ew_L e n)
  rw [kp0, List.nil_append] at fnE
  rw [kp0] at X2 h2
  have e1 := congrArg Prod.fst h4
  have e2 := congrArg Prod.snd h4
  dsimp only at e1 e2
  rw [← e1] at X2 J2
  rw [← e2] at J2
  have hP0 : ew_L p' mc = [] := by
    refine List.eq_nil_iff_forall_not_mem.mpr (fun y hy => ?_)
    obtain ⟨v, m⟩ := (X2.1.2 y hy).1
    exact absurd m List.not_mem_nil
  have hnc : nc = 0 := by
    have := congrArg List.length h2
    rw [ew_Ll] at this
    exact this
  have hmc : mc = 0 := by
    have := congrArg List.length hP0
    rw [ew_Ll] at this
    exact this
  rw [hP0] at J2
  subst hnc hmc
  obtain ⟨Lg, g1, g2, g3, g4⟩ := J2
  have pb1 : (X ++ (ew_L e n).filter (fun x => ! ew_kp g (ew_L e n) lt 2100000 x)).Perm (ew_L f bn) := by
    refine List.perm_append_comm.trans ?_
    exact (fnE.symm.append_right X).trans hperm.symm
  have SL := fw_SL_p pb1 X2.2.2.2.2
  have hpw : ((ew_xl g f bn).map (ew_ss g (ew_L f bn))).Pairwise (fun a b => ew_pk a ≠ ew_pk b) := by
    refine List.pairwise_map.mpr (List.Pairwise.imp ?_ (ew_xl_n' Hsb o1))
    intro a b hab z
    exact hab z
  have hnd : ((ew_xl g f bn).map (ew_ss g (ew_L f bn))).Nodup := List.Pairwise.imp (fun hab z => hab (by rw [z])) hpw
  have hperm2 := (List.perm_ext_iff_of_nodup (List.Pairwise.imp (fun hab z => hab (by rw [z])) SL.2.2) hnd).mpr (fun r => by
    rw [List.mem_map]
    constructor
    · intro hr
      obtain ⟨a1, a2⟩ := SL.2.1 r hr
      exact ⟨(r.1, r.2.1), (ew_xl_m Hsb o1).mpr a1, a2.symm⟩
    · rintro ⟨ks, hks, rfl⟩
      exact SL.1 ks.1 ks.2 ((ew_xl_m Hsb o1).mp hks))
  have hsum : ∀ h : ew_P → Int64, fw_s (fw_g h) Lg = fw_s h ((ew_xl g f bn).map (ew_ss g (ew_L f bn))) := by
    intro h
    rw [g4 h, fw_s_p hperm2]
    exact Int64.zero_add _
  have Hb : ew_ev g bn f bk bT bv := ⟨hokb.1, hokb.2.1, hokb.2.2.2.2.1, hEb, hokb.2.2.2.2.2⟩
  have Hc : ew_ev g 0 c ak aT av := ⟨o1, o2, by omega, h1, fun i hi => absurd hi (Nat.not_lt_zero i)⟩
  have hle : (ew_xl g f bn).length ≤ bn := by
    rw [ew_xl_l]
    exact ew_ct_le _ bn
  have hbs : ∀ s, s ∈ (ew_xl g f bn).map (ew_ss g (ew_L f bn)) → ew_xb s := by
    intro s hs
    obtain ⟨ks, hks, rfl⟩ := List.mem_map.mp hs
    have := ew_okS hokb ((ew_xl_m Hsb o1).mp hks)
    exact ⟨this.1, by omega, this.2.2⟩
  refine xa_se (br_t nI_0 (xa_sc Hc (br_t nI_0 (xa_pc (br_t nI_0 (xa_rc (br_t ?_ (xa_sc Hb ⟨len1 + (ew_xl g f bn).length + 1, ?_⟩))))))))
  · rw [g1.2.1]
    exact nI_le (b := 64) (by omega) (by omega)
  · have hc : R'.2.2.2.2.2 = nI len1 := by
      rw [g1.2.1, g2]
    have F := fw_285 (L := L) (xs := xs) (kc := kc) (ks := ks) (l := nI lt) (w := nI 2100000) (D := D) (n := 0) (m := 0) (ak := ak) (aT := aT) (av := av) (pk := pk) (ps := ps) (pe := pe) (pv := pv) (bm := bm) (bD := bD) (bc := bc) (b4 := b4) (b5 := b5) (b6 := b6) (b7 := b7) (q1 := q1) (q2 := q2) (q3 := q3) (q4 := q4) (q5 := q5) (post := fun r => r = 1) (nb := (ew_xl g f bn).length) Hb Hsb hbs hpw (by rw [List.length_map]) (by omega) g1 g2.symm g3 hsum rfl (len1 + (ew_xl g f bn).length) 0 (by omega)
    exact ek_v (P := fun z => wL_law_285 (fun r => r = 1) L xs z (nI (ew_xl g f bn).length) kc ks (nI g) (nI lt) (nI 2100000) D (nI 0) (nI 0) R'.2.2.2.2.2 ak aT av pk ps pe pv R'.1 R'.2.1 R'.2.2.1 R'.2.2.2.1 R'.2.2.2.2.1 (nI g) (nI 0) (nI 0) bD (nI bn) (nI bm) bc bk bT bv b4 b5 b6 b7 q1 q2 q3 q4 q5 (len1 + (ew_xl g f bn).length + 1) 0) hc F
end
end
section
/-! the law's first loop, and what is owed -/
section
variable {g lt W n m bn bm ad len kc ks L : Nat} {D bD bc : Int32} {ak aT av pk ps pe pv bk bT bv b4 b5 b6 b7 q1 q2 q3 q4 q5 : Nat → Int32} {e f : Nat → ew_E} {p pb : Nat → ew_P} {X : List ew_E} {Rt : List ew_P} {R : ew_R} {xs : Nat → Int32}
theorem fw_cell {post : Int32 → Prop} {z : Int32} {k : Nat} (hL : L ≤ 260) (hz : z = nI k) (hk : k < 2 ^ 31) (h : ∀ c, post c) : wpL_cell post L xs () z := by
  subst hz
  by_cases c : L ≤ k
  · exact br_t (nI_le c hk) (h 0)
  · exact br_f (nI_ge (by omega) (by omega)) ⟨vp_in_nI (by omega) (by omega), h _⟩
theorem fw_val : ∀ j, j < 16 → ¬ nI j - 8 < -1000 ∧ nI j - 8 ≤ 1000 := by decide +kernel
def fw_J44 (L : Nat) (xs : Nat → Int32) (kc ks : Nat) (g lt : Nat) (fu pp : Nat) : Prop := ∀ (W n m bn bm ad len : Nat) (D bD : Int32) (e f : Nat → ew_E) (p pb : Nat → ew_P) (X : List ew_E) (Rt : List ew_P) (R Rb : ew_R) (ak aT av pk ps pe pv bk bT bv b4 b5 b6 b7 : Nat → Int32), fw_I g lt W n m bn bm ad len e f p pb X Rt R ak aT av pk ps pe pv bk bT bv b4 b5 b6 b7 → len ≤ 44 → W ≤ 32 * pp → wL_law_44 (fun r => r = 1) L xs kc ks fu (nI ad) (nI pp) (nI g) (nI lt) (nI W) D (nI n) (nI m) R.2.2.2.2.2 ak aT av pk ps pe pv R.1 R.2.1 R.2.2.1 R.2.2.2.1 R.2.2.2.2.1 (nI g) (nI 0) (nI 0) bD (nI bn) (nI bm) Rb.2.2.2.2.2 bk bT bv b4 b5 b6 b7 Rb.1 Rb.2.1 Rb.2.2.1 Rb.2.2.2.1 Rb.2.2.2.2.1
theorem fw_151 {pp fu k t : Nat} {cc : Int32} {Rb : ew_R} (hI : fw_I g lt W n m bn bm ad len e f p pb X Rt R ak aT av pk ps pe pv bk bT bv b4 b5 b6 b7) (hl : len ≤ 24) (hW : W ≤ 32 * pp) (had : ad < 10) (hk : k ≤ 7) (ht : t ≤ 1000000) (K : fw_J44 L xs kc ks g lt fu (pp + 1)) :
    wL_law_151 (fun r => r = 1) L xs (wL_law_44 (fun r => r = 1) L xs kc ks fu) (nI ad) (nI pp) cc (nI k) (nI t) kc ks (nI g) (nI lt) (nI W) D (nI n) (nI m) R.2.2.2.2.2 ak aT av pk ps pe pv R.1 R.2.1 R.2.2.1 R.2.2.2.1 R.2.2.2.2.1 (nI g) (nI 0) (nI 0) bD (nI bn) (nI bm) Rb.2.2.2.2.2 bk bT bv b4 b5 b6 b7 Rb.1 Rb.2.1 Rb.2.2.1 Rb.2.2.2.1 Rb.2.2.2.2.1 := by
  obtain ⟨hok, Hs, hE, HP, hX, hJ, hokb, Hsb, hEb, HPb, HGb, hbad, had2, hperm⟩ := id hI
  have hbn := fw_n10 hperm
  have hn : n ≤ 10 := by omega
  obtain ⟨o1, o2, o3, o4, o5, o6⟩ := id hok
  obtain ⟨j, hj, ej⟩ := pk_andE (cc >>> ((7 : Int32) &&& 31)) (m := 15) 4 (by decide)
  obtain ⟨v1, v2⟩ := fw_val j hj
  refine nm_r (e' := nI j - 8) (by rw [ej]) ?_
  by_cases c : W ≤ t + lt
  · refine xa_add hok Hs hE HP hX.1.1 hk ht v1 v2 c (by omega) (fun b ak aT av m' p' R' pk ps pe pv h1 h2 h3 h4 h5 => ?_)
    have hE' := ew_put_p e (k, t, nI j - 8) b n h1
    have hok' : ew_ok g lt W (n + 1) (ew_put e (k, t, nI j - 8) b) := by
      refine ⟨o1, o2, o3, o4, by omega, fun i hi => ?_⟩
      by_cases a : i < b
      · rw [ew_put_a a]
        exact o6 i (by omega)
      · by_cases d : i = b
        · rw [d, ew_put_b]
          exact ⟨hk, ht⟩
        · rw [ew_put_c (show b < i by omega)]
          exact o6 (i - 1) (by omega)
    have hb' := fw_bd_ok hok' (by omega)
    have hks : ew_ks g (ew_put e (k, t, nI j - 8) b) (n + 1) b = (k, ew_st g (ew_M (ew_L (ew_put e (k, t, nI j - 8) b) (n + 1))) k t) := by
      unfold ew_ks
      rw [ew_put_b]
    have ho := ew_ks_O (g := g) (e := ew_put e (k, t, nI j - 8) b) (show b < n + 1 by omega)
    have X1 := fw_add (kd := 3) (R := R) (x := (k, t, nI j - 8)) hb' hE' c hX
    have K1 : fw_K g (ew_L (ew_put e (k, t, nI j - 8) b) (n + 1)) (ew_L p m) := fw_K_add (fun y hy => hE'.mem_iff.mpr (List.mem_cons_of_mem _ hy)) hX.1
    dsimp only at X1
    rw [← hks, ← h5] at X1
    have J1 : ∃ len', len ≤ len' ∧ len' ≤ 44 ∧ fw_J (ew_L p' m') Rt R' len' := by
      have hpl := fw_len hX.1
      have hpl0 := ew_Ll e n
      have e1 := congrArg Prod.fst h5
      have e2 := congrArg Prod.snd h5
      dsimp only at e1 e2
      rw [e1, e2]
      by_cases d : (fun z => ew_dc (z ≤ W)) (ew_ss g (ew_L (ew_put e (k, t, nI j - 8) b) (n + 1)) (ew_ks g (ew_put e (k, t, nI j - 8) b) (n + 1) b)).2.2.1 = true
      · rw [ew_fs_y d]
        have B1 : (ew_B (ew_ss g (ew_L (ew_put e (k, t, nI j - 8) b) (n + 1)) (ew_ks g (ew_put e (k, t, nI j - 8) b) (n + 1) b)) (ew_L p m)).length ≤ (ew_L p m).length := List.length_filter_le _ _
        have N1 : (ew_N (ew_ss g (ew_L (ew_put e (k, t, nI j - 8) b) (n + 1)) (ew_ks g (ew_put e (k, t, nI j - 8) b) (n + 1) b)) (ew_L p m)).length ≤ (ew_L p m).length := List.length_filter_le _ _
        obtain ⟨len', a1, a2, a3⟩ := fw_J_fi (kd := 3) hJ (Or.inr (Or.inr rfl)) (fw_xb hb' (fw_PJ_n ho)) (fun y hy => fw_xb hb' (K1.2 y hy)) (show len + (ew_B (ew_ss g (ew_L (ew_put e (k, t, nI j - 8) b) (n + 1)) (ew_ks g (ew_put e (k, t, nI j - 8) b) (n + 1) b)) (ew_L p m)).length + 1 ≤ 64 by omega) (show (ew_N (ew_ss g (ew_L (ew_put e (k, t, nI j - 8) b) (n + 1)) (ew_ks g (ew_put e (k, t, nI j - 8) b) (n + 1) b)) (ew_L p m)).length < 32 by omega)
        have a2' : len' ≤ len + (ew_B (ew_ss g (ew_L (ew_put e (k, t, nI j - 8) b) (n + 1)) (ew_ks g (ew_put e (k, t, nI j - 8) b) (n + 1) b)) (ew_L p m)).length + 1 := a2
        exact ⟨len', a1, by omega, a3⟩
      · rw [ew_fs_n d]
        exact ⟨len, Nat.le_refl _, by omega, hJ⟩
    obtain ⟨len', l1, l2, J2⟩ := J1
    have c1 : R.2.2.2.2.2 = nI len := by
      obtain ⟨Lg, z1, z2, _⟩ := hJ
      rw [z1.2.1, z2]
    have c2 : R'.2.2.2.2.2 = nI len' := by
      obtain ⟨Lg, z1, z2, _⟩ := J2
      rw [z1.2.1, z2]
    refine br_f ?_ (nm_r (nI_1 ad) ?_)
    · rw [c1, c2, pk_sub l1]
      exact nI_pos (by omega)
    · refine xa_add (lt := 0) (W := 0) hokb Hsb hEb HPb HGb hk ht v1 v2 (by omega) (by omega) (fun b' bk bT bv bm' pb' Rb' b4 b5 b6 b7 g1 g2 g3 g4 g5 => nm_r (nI_1 pp) ?_)
      have hEb' := ew_put_p f (k, t, nI j - 8) b' bn g1
      have hokb' : ew_ok g 0 0 (bn + 1) (ew_put f (k, t, nI j - 8) b') := by
        refine ⟨o1, o2, by omega, by omega, by omega, fun i hi => ?_⟩
        by_cases a : i < b'
        · rw [ew_put_a a]
          exact hokb.2.2.2.2.2 i (by omega)
        · by_cases d : i = b'
          · rw [d, ew_put_b]
            exact ⟨hk, ht⟩
          · rw [ew_put_c (show b' < i by omega)]
            exact hokb.2.2.2.2.2 (i - 1) (by omega)
      have HGb' : ew_G g (ew_L (ew_put f (k, t, nI j - 8) b') (bn + 1)) (ew_L pb' bm') := by
        have := ew_fs_G (kd := 3) (t := fun z => ew_dc (z ≤ 0)) (st := (ew_L pb bm, Rb)) o1 (ew_ks_O (g := g) (e := ew_put f (k, t, nI j - 8) b') (show b' < bn + 1 by omega)) (ew_add_G (fun y hy => hEb'.mem_iff.mpr (List.mem_cons_of_mem _ hy)) HGb)
        rw [← g5] at this
        exact this
      have hperm' : (ew_L (ew_put f (k, t, nI j - 8) b') (bn + 1)).Perm (ew_L (ew_put e (k, t, nI j - 8) b) (n + 1) ++ X) := hEb'.trans ((hperm.cons _).trans (hE'.symm.append_right X))
      exact K W (n + 1) m' (bn + 1) bm' (ad + 1) len' D bD (ew_put e (k, t, nI j - 8) b) (ew_put f (k, t, nI j - 8) b') p' pb' X Rt R' Rb' ak aT av pk ps pe pv bk bT bv b4 b5 b6 b7 ⟨hok', h2, h3, h4, X1, J2, hokb', g2, g3, g4, HGb', by omega, by omega, hperm'⟩ l2 (by omega)
  · have d1 : ¬ nI W ≤ nI t + nI lt := by
      rw [nI_add]
      exact nI_ge (by omega) (by omega)
    exact br_f (nI_pos (by omega)) (br_t (nI_le (b := 7) hk (by omega)) (br_f (nI_pos (by omega)) (br_t (nI_le (b := 1000000) ht (by omega)) (br_f v1 (br_t v2 (br_f d1 (nm_e (br_t (by decide) (nm_r (nI_1 pp) (K W n m bn bm ad len (D + 1) bD e f p pb X Rt R Rb ak aT av pk ps pe pv bk bT bv b4 b5 b6 b7 hI (by omega) (by omega)))))))))))
theorem fw_44 (hL : L ≤ 260) : ∀ d pp, pp + d = 150 → fw_J44 L xs kc ks g lt (d + 1) pp := by
  intro d
  induction d with
  | zero =>
    intro pp hpp W n m bn bm ad len D bD e f p pb X Rt R Rb ak aT av pk ps pe pv bk bT bv b4 b5 b6 b7 hI hl hW
    exact br_t (nI_le (a := 150) (by omega) (by omega)) (fw_end hI hl (by omega))
  | succ d ih =>
    intro pp hpp W n m bn bm ad len D bD e f p pb X Rt R Rb ak aT av pk ps pe pv bk bT bv b4 b5 b6 b7 hI hl hW
    have E := fw_end (L := L) (xs := xs) (kc := kc) (ks := ks) (D := D) (bD := bD) (bc := Rb.2.2.2.2.2) (q1 := Rb.1) (q2 := Rb.2.1) (q3 := Rb.2.2.1) (q4 := Rb.2.2.2.1) (q5 := Rb.2.2.2.2.1) hI hl (by omega)
    have K := ih (pp + 1) (by omega)
    obtain ⟨hok, Hs, hE, HP, hX, hJ, hokb, Hsb, hEb, HPb, HGb, hbad, had2, hperm⟩ := id hI
    have hbn := fw_n10 hperm
    have hn : n ≤ 10 := by omega
    have hb := fw_bd_ok hok (by omega)
    obtain ⟨o1, o2, o3, o4, o5, o6⟩ := id hok
    have c1 : R.2.2.2.2.2 = nI len := by
      obtain ⟨Lg, z1, z2, _⟩ := hJ
      rw [z1.2.1, z2]
    have c24 : R.2.2.2.2.2 ≤ 24 ↔ len ≤ 24 := by
      rw [c1]
      exact nI_leI (b := 24) (by omega) (by omega)
    have e2 : (2 : Int32) + 2 * nI pp = nI (2 + 2 * pp) := by
      rw [show (2 : Int32) = nI 2 from rfl, pk_mul, nI_add]
    have e3 : (3 : Int32) + 2 * nI pp = nI (3 + 2 * pp) := by
      rw [show (2 : Int32) = nI 2 from rfl, show (3 : Int32) = nI 3 from rfl, pk_mul, nI_add]
    refine br_f (nI_ge (b := 150) (by omega) (by omega)) (br_c (fun _ => E) (fun _ => xa_rc (ek_if c24 (fun l24 => fw_cell hL e2 (by omega) (fun a => fw_cell hL e3 (by omega) (fun cc => ?_))) (fun _ => E))))
    obtain ⟨op, hop, eop⟩ := pk_andE a (m := 3) 2 (by decide)
    refine nm_r eop (ek_if (nI_ltI (a := 1) (by omega) (by omega)) (fun z1 => ek_if (nI_eq (b := 2) (by omega) (by omega)) (fun z2 => xa_wm ?_) (fun z2 => ?_)) (fun z1 => ek_if (nI_ltI (b := 10) (by omega) (by omega)) (fun z2 => ?_) (fun z2 => nm_r (nI_1 pp) (K W n m bn bm ad len D bD e f p pb X Rt R Rb ak aT av pk ps pe pv bk bT bv b4 b5 b6 b7 hI hl (by omega)))))
    · obtain ⟨j, hj, ej⟩ := pk_andE cc (m := 31) 5 (by decide)
      have e4 : nI W + 1 + (cc &&& 31) = nI (W + 1 + j) := by
        rw [ej, nI_1, nI_add]
      rw [e4]
      refine xa_adv hok Hs hE HP hX.1.1 (W' := W + 1 + j) (by omega) (by omega) (fun nc mc c p' R' ak aT av pk ps pe pv h1 h2 h3 h4 => nm_r (nI_1 pp) ?_)
      obtain ⟨len1, l1, J1⟩ := fw_Jx (kd := 2) (t := fun z => ew_dc (z ≤ W + 1 + j)) hok Hs hn (Or.inr (Or.inl rfl)) hX.1 hJ hl
      have X1 := fw_X_fire (kd := 2) (R := R) (W' := W + 1 + j) hb (fun x => ew_xl_m Hs o1) (by omega) hX
      have X2 := fw_exp hb X1
      have J2 := fw_J_exp (ew_pp g (ew_L e n) lt (W + 1 + j)) J1
      have e5 := congrArg Prod.fst h4
      have e6 := congrArg Prod.snd h4
      dsimp only at e5 e6
      rw [← e5, ← h2] at X2
      rw [← e5, ← e6] at J2
      have hnc : nc ≤ n := by
        have := List.length_filter_le (ew_kp g (ew_L e n) lt (W + 1 + j)) (ew_L e n)
        rw [← h2, ew_Ll, ew_Ll] at this
        exact this
      have hok' : ew_ok g lt (W + 1 + j) nc c := by
        refine ⟨o1, o2, o3, by omega, by omega, fun i hi => ?_⟩
        have hm : c i ∈ (ew_L e n).filter (ew_kp g (ew_L e n) lt (W + 1 + j)) := by
          rw [← h2]
          exact ew_Lm.mpr ⟨i, hi, rfl⟩
        obtain ⟨t, ht, z⟩ := ew_Lm.mp (List.mem_filter.mp hm).1
        rw [← z]
        exact o6 t ht
      have Hs' : ew_srt c nc := by
        rw [ew_srtL, h2]
        exact List.Pairwise.filter _ (ew_srtL.mp Hs)
      have hperm' : (ew_L f bn).Perm (ew_L c nc ++ (X ++ (ew_L e n).filter (fun x => ! ew_kp g (ew_L e n) lt (W + 1 + j) x))) := by
        rw [h2]
        refine hperm.trans (((fw_fn (ew_kp g (ew_L e n) lt (W + 1 + j)) (ew_L e n)).append_right X).trans ?_)
        rw [List.append_assoc]
        exact List.perm_append_comm.append_left _
      exact K (W + 1 + j) nc mc bn bm ad len1 D bD c f p' pb _ _ R' Rb ak aT av pk ps pe pv bk bT bv b4 b5 b6 b7 ⟨hok', Hs', h1, h3, X2, J2, hokb, Hsb, hEb, HPb, HGb, hbad, had2, hperm'⟩ (by omega) (by omega)
    · refine xa_ear hok Hs hE HP hX.1.1 (fun m' p' R' pk ps pe pv h1 h2 => nm_r (nI_1 pp) ?_)
      obtain ⟨len1, l1, J1⟩ := fw_Jx (kd := 1) (t := fun z => ew_dc (¬ z ≤ W)) hok Hs hn (Or.inl rfl) hX.1 hJ hl
      have X1 := fw_X_early (kd := 1) (R := R) (t := fun z => ew_dc (¬ z ≤ W)) hb (L := ew_xl g e n) (fun x hx => ew_xl_O Hs (Nat.le_refl _) hx) hX
      rw [← h2] at X1 J1
      exact K W n m' bn bm ad len1 D bD e f p' pb X Rt R' Rb ak aT av pk ps pe pv bk bT bv b4 b5 b6 b7 ⟨hok, Hs, hE, h1, X1, J1, hokb, Hsb, hEb, HPb, HGb, hbad, had2, hperm⟩ (by omega) (by omega)
    · obtain ⟨k, hk, ek⟩ := pk_andE (a >>> ((2 : Int32) &&& 31)) (m := 1) 1 (by decide)
      obtain ⟨j, hj, ej⟩ := pk_andE cc (m := 127) 7 (by decide)
      have e4 : nI W - 48 + (cc &&& 127) = nI (W + j) - nI 48 := by
        rw [ej, ← nI_add, show (48 : Int32) = nI 48 from rfl]
        generalize nI W = x
        generalize nI j = y
        generalize nI 48 = z
        grind
      refine nm_r ek (xa_wm (nm_r e4 ?_))
      by_cases h : 48 ≤ W + j
      · rw [pk_sub h]
        exact br_t (nI_pos' (by omega)) (fw_151 hI l24 hW z2 (by omega) (by omega) K)
      · exact br_f (Int32.not_le.mpr (pk_sneg (by omega) (by omega))) (fw_151 (t := 0) hI l24 hW z2 (by omega) (by omega) K)
end
section
theorem fw_cg (x : Int32) : ∃ g, 0 < g ∧ g ≤ 1000 ∧ ∀ P : Int32 → Prop, P (nI g) → ((1 ≤ x → ((x ≤ 1000 → P x) ∧ (¬ x ≤ 1000 → P 1000))) ∧ (¬ 1 ≤ x → P 1)) := by
  by_cases h1 : 1 ≤ x
  · by_cases h2 : x ≤ 1000
    · obtain ⟨j, hj, rfl⟩ := nI_of2 (M := 1000) (n := 1000) (by decide) (Int32.not_lt.mpr (Int32.le_trans (by decide) h1)) h2
      have h3 : 1 ≤ j := (nI_leI (a := 1) (by omega) (by omega)).mp h1
      exact ⟨j, by omega, hj, fun P hP => br_t h1 (br_t h2 hP)⟩
    · exact ⟨1000, by omega, by omega, fun P hP => br_t h1 (br_f h2 hP)⟩
  · exact ⟨1, by omega, by omega, fun P hP => br_f h1 hP⟩
theorem fw_cl0 (x : Int32) : ∃ g, g ≤ 1000 ∧ ∀ P : Int32 → Prop, P (nI g) → ((0 ≤ x → ((x ≤ 1000 → P x) ∧ (¬ x ≤ 1000 → P 1000))) ∧ (¬ 0 ≤ x → P 0)) := by
  by_cases h1 : 0 ≤ x
  · by_cases h2 : x ≤ 1000
    · obtain ⟨j, hj, rfl⟩ := nI_of2 (M := 1000) (n := 1000) (by decide) (Int32.not_lt.mpr h1) h2
      exact ⟨j, hj, fun P hP => br_t h1 (br_t h2 hP)⟩
    · exact ⟨1000, by omega, fun P hP => br_t h1 (br_f h2 hP)⟩
  · exact ⟨0, by omega, fun P hP => br_f h1 hP⟩
theorem fw_init {p0 p1 : Int32} {g t : Nat} (G : ∀ P : Int32 → Prop, P (nI g) → ((1 ≤ p0 → ((p0 ≤ 1000 → P p0) ∧ (¬ p0 ≤ 1000 → P 1000))) ∧ (¬ 1 ≤ p0 → P 1))) (T : ∀ P : Int32 → Prop, P (nI t) → ((0 ≤ p1 → ((p1 ≤ 1000 → P p1) ∧ (¬ p1 ≤ 1000 → P 1000))) ∧ (¬ 0 ≤ p1 → P 0))) (post : St2 → Prop)
    (h : post (nI g, nI t, 0, 0, 0, 0, 0, (fun _ => 0), (fun _ => 0), (fun _ => 0), (fun _ => 0), (fun _ => 0), (fun _ => 0), (fun _ => 0), (fun _ => 0), (fun _ => 0), (fun _ => 0), (fun _ => 0), (fun _ => 0))) : wpX_init post 12 544 (0, 0, 0, 0, 0, 0, 0) p0 p1 :=
  ⟨by omega, by omega, by omega, by omega, by omega, by omega, by omega, by omega, by omega, by omega, by omega, by omega, by omega, by omega, by omega, by omega, by omega, by omega, by omega, by omega, by omega, by omega, by omega, by omega, G (fun r1 => wpX_clamp (fun r2 => post (r1, r2, 0, 0, 0, 0, 0, (fun _ => 0), (fun _ => 0), (fun _ => 0), (fun _ => 0), (fun _ => 0), (fun _ => 0), (fun _ => 0), (fun _ => 0), (fun _ => 0), (fun _ => 0), (fun _ => 0), (fun _ => 0))) () p1 0 1000) (T (fun r2 => post (nI g, r2, 0, 0, 0, 0, 0, (fun _ => 0), (fun _ => 0), (fun _ => 0), (fun _ => 0), (fun _ => 0), (fun _ => 0), (fun _ => 0), (fun _ => 0), (fun _ => 0), (fun _ => 0), (fun _ => 0), (fun _ => 0))) h)⟩
theorem i_vc (xs : Nat → Int32) (L : Nat) (hL : L ≤ 260) : wpL_law (fun r => r = 1) L xs := by
  refine fw_cell (k := 0) hL nI_0.symm (by omega) (fun a => fw_cell (k := 1) hL rfl (by omega) (fun b => ⟨12, 544, by omega, by omega, ?_⟩))
  obtain ⟨g, g1, g2, G⟩ := fw_cg (1 + (a &&& 15))
  obtain ⟨t, t1, T⟩ := fw_cl0 (b &&& 31)
  refine fw_init G T _ ⟨by omega, by omega, ⟨12, 544, by omega, by omega, ?_⟩⟩
  have G' : ∀ P : Int32 → Prop, P (nI g) → ((1 ≤ nI g → ((nI g ≤ 1000 → P (nI g)) ∧ (¬ nI g ≤ 1000 → P 1000))) ∧ (¬ 1 ≤ nI g → P 1)) := fun P hP => br_t (nI_le (a := 1) g1 (by omega)) (br_t (nI_le (b := 1000) g2 (by omega)) hP)
  have T' : ∀ P : Int32 → Prop, P (nI 0) → ((0 ≤ (0 : Int32) → (((0 : Int32) ≤ 1000 → P 0) ∧ (¬ (0 : Int32) ≤ 1000 → P 1000))) ∧ (¬ 0 ≤ (0 : Int32) → P 0)) := fun P hP => br_t (by decide) (br_t (by decide) hP)
  refine fw_init G' T' _ ⟨151, ?_⟩
  have z : ∀ {P : Nat → Prop} i, i < 0 → P i := fun i h => absurd h (Nat.not_lt_zero i)
  have F := fw_44 (g := g) (lt := t) (kc := 1 + 12 + 1 + 12) (ks := 19 + 544 + 19 + 544) (xs := xs) hL 150 0 (by omega) 0 0 0 0 0 0 0 0 0 (fun _ => (0, 0, 0)) (fun _ => (0, 0, 0)) (fun _ => (0, 0, 0, 0)) (fun _ => (0, 0, 0, 0)) [] [] ((fun _ => 0), (fun _ => 0), (fun _ => 0), (fun _ => 0), (fun _ => 0), 0) ((fun _ => 0), (fun _ => 0), (fun _ => 0), (fun _ => 0), (fun _ => 0), 0) (fun _ => 0) (fun _ => 0) (fun _ => 0) (fun _ => 0) (fun _ => 0) (fun _ => 0) (fun _ => 0) (fun _ => 0) (fun _ => 0) (fun _ => 0) (fun _ => 0) (fun _ => 0) (fun _ => 0) (fun _ => 0)
    ⟨⟨g1, g2, t1, by omega, by omega, z⟩, fun i j _ h => absurd h (Nat.not_lt_zero j), z, ⟨by omega, z⟩, fw_X0 g1, ⟨[], ⟨Nat.zero_le _, rfl, fun i x hx => by rw [List.getElem?_nil] at hx; cases hx⟩, rfl, fun x hx => absurd hx List.not_mem_nil, fun f => rfl⟩, ⟨g1, g2, by omega, by omega, by omega, z⟩, fun i j _ h => absurd h (Nat.not_lt_zero j), z, ⟨by omega, z⟩, ⟨List.Pairwise.nil, fun p hp => absurd hp List.not_mem_nil, Nat.zero_le _⟩, rfl, by omega, List.Perm.refl _⟩ (by omega) (by omega)
  exact F
end
end
