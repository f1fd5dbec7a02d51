/-! the order of sessions and of panes: rank is position; labels -/
section
variable {g n i j q r : Nat} {e : Nat → ew_E}
def ew_lt (a b : Nat × Nat) : Prop := a.1 < b.1 ∨ (a.1 = b.1 ∧ a.2 < b.2)
theorem ew_lt_as {a b : Nat × Nat} (h : ew_lt a b) : ¬ ew_lt b a := by
  unfold ew_lt at *
  omega
theorem ew_rk {α : Type} (f : α → α → Prop) (as : ∀ a b, f a b → ¬ f b a) : ∀ (l : List α), l.Pairwise f → ∀ (i : Nat) (x : α), l[i]? = some x → l.countP (fun y => ew_dc (f y x)) = i := by
  intro l
  induction l with
  | nil => intro _ i x h; rw [List.getElem?_nil] at h; cases h
  | cons a l ih =>
    intro hp i x h
    obtain ⟨h1, h2⟩ := List.pairwise_cons.mp hp
    cases i with
    | zero =>
      rw [List.getElem?_cons_zero] at h
      cases h
      apply List.countP_eq_zero.mpr
      intro y hy z
      have z' := ew_dcI.mp z
      rcases List.mem_cons.mp hy with c | c
      · subst c
        exact as y y z' z'
      · exact as _ _ (h1 y c) z'
    | succ i =>
      rw [List.getElem?_cons_succ] at h
      rw [List.countP_cons_of_pos (p := fun y => ew_dc (f y x)) (ew_dcI.mpr (h1 x (List.mem_of_getElem? h))), ih h2 i x h]
/-- key and start of the sessions in order, as the sorted sequence shows them, those that open below n -/
noncomputable def ew_xl (g : Nat) (e : Nat → ew_E) (n : Nat) : List (Nat × Nat) :=
  ((List.range n).filter (fun i => ew_dc (ew_op g e i))).map (fun i => ((e i).1, (e i).2.1))
theorem ew_xl_s (n : Nat) : ew_xl g e (n + 1) = if ew_dc (ew_op g e n) = true then ew_xl g e n ++ [((e n).1, (e n).2.1)] else ew_xl g e n := by
  unfold ew_xl
  rw [List.range_succ, List.filter_append]
  by_cases h : ew_dc (ew_op g e n) = true
  · rw [if_pos h, List.filter_cons_of_pos (p := fun i => ew_dc (ew_op g e i)) h, List.map_append]
    rfl
  · rw [if_neg h, List.filter_cons_of_neg (p := fun i => ew_dc (ew_op g e i)) h, List.map_append]
    exact List.append_nil _
theorem ew_xl_y (h : ew_op g e n) : ew_xl g e (n + 1) = ew_xl g e n ++ [((e n).1, (e n).2.1)] := by
  rw [ew_xl_s, if_pos (ew_dcI.mpr h)]
theorem ew_xl_n (h : ¬ ew_op g e n) : ew_xl g e (n + 1) = ew_xl g e n := by
  rw [ew_xl_s, if_neg (fun z => h (ew_dcI.mp z))]
theorem ew_xl_l (n : Nat) : (ew_xl g e n).length = ew_ct (fun i => ew_dc (ew_op g e i)) n := by
  unfold ew_xl
  rw [List.length_map, ew_ct_r, List.countP_eq_length_filter]
theorem ew_xl_g (h : ew_op g e i) : ∀ d, (ew_xl g e (i + 1 + d))[(ew_xl g e i).length]? = some ((e i).1, (e i).2.1) := by
  intro d
  induction d with
  | zero =>
    rw [Nat.add_zero, ew_xl_y h, List.getElem?_append_right (Nat.le_refl _), Nat.sub_self]
    rfl
  | succ d ih =>
    rw [← Nat.add_assoc, ew_xl_s]
    split
    · rw [List.getElem?_append_left, ih]
      exact (List.getElem?_eq_some_iff.mp ih).1
    · exact ih
theorem ew_xl_p (hs : ew_srt e n) (hg : 0 < g) : (ew_xl g e n).Pairwise ew_lt := by
  unfold ew_xl
  refine List.pairwise_map.mpr ?_
  refine List.Pairwise.imp_of_mem ?_ (List.Pairwise.filter _ List.pairwise_lt_range)
  intro a b ha hb hab
  have ha2 := List.mem_range.mp (List.mem_filter.mp ha).1
  have hb2 := List.mem_range.mp (List.mem_filter.mp hb).1
  have hb3 := ew_dcI.mp (List.mem_filter.mp hb).2
  have h1 := hs a (b - 1) (by omega) (by omega)
  have h2 := hs (b - 1) b (by omega) hb2
  unfold ew_op at hb3
  unfold ew_lt
  dsimp only
  omega
theorem ew_xl_m (hs : ew_srt e n) (hg : 0 < g) {ks : Nat × Nat} : ks ∈ ew_xl g e n ↔ ew_O g (ew_M (ew_L e n)) ks.1 ks.2 := by
  unfold ew_xl
  rw [List.mem_map]
  constructor
  · rintro ⟨i, hi, rfl⟩
    obtain ⟨h1, h2⟩ := List.mem_filter.mp hi
    exact ew_opO hs (List.mem_range.mp h1) (ew_dcI.mp h2)
  · intro h
    obtain ⟨i, ⟨hi, h1, h2⟩, mn⟩ := pk_least (fun i => i < n ∧ (e i).1 = ks.1 ∧ (e i).2.1 = ks.2) (ew_ML.mp h.1)
    refine ⟨i, List.mem_filter.mpr ⟨List.mem_range.mpr hi, ew_dcI.mpr ?_⟩, by show ((e i).1, (e i).2.1) = ks; rw [h1, h2]⟩
    refine Classical.byContradiction fun c => ?_
    unfold ew_op at c
    have h3 := hs (i - 1) i (by omega) hi
    have h4 := mn (i - 1) (by omega)
    have m : ew_M (ew_L e n) (e (i - 1)).1 (e (i - 1)).2.1 := ew_iM (by omega)
    have hk : (e (i - 1)).1 = ks.1 := by omega
    rw [hk] at m
    by_cases d : (e (i - 1)).2.1 < ks.2
    · have := h.2 _ m d
      omega
    · exact h4 ⟨by omega, hk, by omega⟩
/-- the start of the session of key k that time t is in -/
noncomputable def ew_st (g : Nat) (M : Nat → Nat → Prop) (k t : Nat) : Nat := @dite Nat (∃ o, ew_O g M k o ∧ ew_S g M k o t) (Classical.propDecidable _) (fun h => Classical.choose h) (fun _ => 0)
theorem ew_st_s {M : Nat → Nat → Prop} {k t : Nat} (h : M k t) : ew_O g M k (ew_st g M k t) ∧ ew_S g M k (ew_st g M k t) t := by
  have hx : ∃ o, ew_O g M k o ∧ ew_S g M k o t := ew_ex h
  unfold ew_st
  rw [dif_pos hx]
  exact Classical.choose_spec hx
theorem ew_st_e {M : Nat → Nat → Prop} {k t o : Nat} (h : M k t) (ho : ew_O g M k o) (s : ew_S g M k o t) : ew_st g M k t = o :=
  ew_O1 (ew_st_s h).1 ho (ew_St (ew_st_s h).2 (ew_Ss s))
theorem ew_st_S {M : Nat → Nat → Prop} {k t t' : Nat} (h : M k t) (h' : M k t') (s : ew_S g M k t t') : ew_st g M k t = ew_st g M k t' :=
  ew_st_e h (ew_st_s h').1 (ew_St (ew_st_s h').2 (ew_Ss s))
/-- positions i and j hold events of one session -/
def ew_si (g : Nat) (e : Nat → ew_E) (n i j : Nat) : Prop := (e j).1 = (e i).1 ∧ ew_S g (ew_M (ew_L e n)) (e i).1 (e i).2.1 (e j).2.1
theorem ew_si_r : ew_si g e n i i := ⟨rfl, ew_Sr⟩
theorem ew_si_s (h : ew_si g e n i j) : ew_si g e n j i := ⟨h.1.symm, by rw [h.1]; exact ew_Ss h.2⟩
theorem ew_si_t (h : ew_si g e n i j) (h' : ew_si g e n j q) : ew_si g e n i q := ⟨h'.1.trans h.1, ew_St h.2 (by rw [← h.1]; exact h'.2)⟩
/-- lb i is the least position of i's session -/
def ew_lab (g : Nat) (e : Nat → ew_E) (n : Nat) (lb : Nat → Nat) : Prop := ∀ i, i < n → lb i < n ∧ ew_si g e n i (lb i) ∧ ∀ j, j < n → ew_si g e n i j → lb i ≤ j
variable {lb : Nat → Nat}
theorem ew_lab_e (h : ew_lab g e n lb) (hi : i < n) (hj : j < n) (s : ew_si g e n i j) : lb i = lb j := by
  obtain ⟨a1, a2, a3⟩ := h i hi
  obtain ⟨b1, b2, b3⟩ := h j hj
  have := a3 (lb j) b1 (ew_si_t s b2)
  have := b3 (lb i) a1 (ew_si_t (ew_si_s s) a2)
  omega
theorem ew_lab_i (h : ew_lab g e n lb) (hi : i < n) : lb (lb i) = lb i :=
  (ew_lab_e h hi (h i hi).1 (h i hi).2.1).symm
theorem ew_lab_c (h : ew_lab g e n lb) (hr : r < n) (hrr : lb r = r) (hj : j < n) : lb j = r ↔ ew_si g e n r j := by
  constructor
  · intro c
    have := (h j hj).2.1
    rw [c] at this
    exact ew_si_s this
  · intro s
    rw [← ew_lab_e h hr hj s, hrr]
/-- key and start of the session of position i -/
noncomputable def ew_ks (g : Nat) (e : Nat → ew_E) (n i : Nat) : Nat × Nat := ((e i).1, ew_st g (ew_M (ew_L e n)) (e i).1 (e i).2.1)
theorem ew_ks_O (hi : i < n) : ew_O g (ew_M (ew_L e n)) (ew_ks g e n i).1 (ew_ks g e n i).2 := (ew_st_s (ew_iM hi)).1
theorem ew_ks_S (hi : i < n) : ew_S g (ew_M (ew_L e n)) (e i).1 (ew_ks g e n i).2 (e i).2.1 := (ew_st_s (ew_iM hi)).2
theorem ew_ks_i (hi : i < n) (hj : j < n) : ew_ks g e n i = ew_ks g e n j ↔ ew_si g e n i j := by
  constructor
  · intro h
    have h1 : (e i).1 = (e j).1 := show (ew_ks g e n i).1 = (ew_ks g e n j).1 from congrArg Prod.fst h
    have h2 : ew_st g (ew_M (ew_L e n)) (e i).1 (e i).2.1 = ew_st g (ew_M (ew_L e n)) (e j).1 (e j).2.1 := show (ew_ks g e n i).2 = (ew_ks g e n j).2 from congrArg Prod.snd h
    have a := (ew_st_s (g := g) (ew_iM (e := e) hi)).2
    have b := (ew_st_s (g := g) (ew_iM (e := e) hj)).2
    rw [← h2, ← h1] at b
    exact ⟨h1.symm, ew_St (ew_Ss a) b⟩
  · intro s
    have m : ew_M (ew_L e n) (e j).1 (e j).2.1 := ew_iM hj
    have e2 : ew_st g (ew_M (ew_L e n)) (e i).1 (e i).2.1 = ew_st g (ew_M (ew_L e n)) (e i).1 (e j).2.1 := by
      rw [s.1] at m
      exact ew_st_S (ew_iM hi) m s.2
    unfold ew_ks
    rw [e2, s.1]
theorem ew_clY (h : ew_lab g e n lb) (hr : r < n) (hrr : lb r = r) (hj : j < n) : ew_cl g (ew_L e n) (ew_ks g e n r).1 (ew_ks g e n r).2 (e j) = ew_dc (lb j = r) := by
  have h1 : ew_cl g (ew_L e n) (ew_ks g e n r).1 (ew_ks g e n r).2 = ew_cl g (ew_L e n) (e r).1 (e r).2.1 := ew_cl_S (ew_ks_S hr)
  rw [h1]
  exact ew_dcC (ew_lab_c h hr hrr hj).symm
/-- the representatives' sessions, in the order of positions -/
noncomputable def ew_yl (g : Nat) (e : Nat → ew_E) (n : Nat) (lb : Nat → Nat) : List (Nat × Nat) :=
  ((List.range n).filter (fun i => ew_dc (lb i = i))).map (ew_ks g e n)
theorem ew_yl_m (h : ew_lab g e n lb) {ks : Nat × Nat} : ks ∈ ew_yl g e n lb ↔ ew_O g (ew_M (ew_L e n)) ks.1 ks.2 := by
  unfold ew_yl
  rw [List.mem_map]
  constructor
  · rintro ⟨i, hi, rfl⟩
    exact ew_ks_O (List.mem_range.mp (List.mem_filter.mp hi).1)
  · intro ho
    obtain ⟨i, hi, h1, h2⟩ := ew_ML.mp ho.1
    refine ⟨lb i, List.mem_filter.mpr ⟨List.mem_range.mpr (h i hi).1, ew_dcI.mpr (ew_lab_i h hi)⟩, ?_⟩
    rw [← (ew_ks_i hi (h i hi).1).mpr (h i hi).2.1]
    unfold ew_ks
    rw [h1, h2, ew_st_e ho.1 ho ew_Sr]
theorem ew_yl_n (h : ew_lab g e n lb) : (ew_yl g e n lb).Nodup := by
  unfold ew_yl
  refine List.pairwise_map.mpr ?_
  refine List.Pairwise.imp_of_mem ?_ (List.Pairwise.filter _ List.pairwise_lt_range)
  intro a b ha hb hab c
  have ha2 := List.mem_range.mp (List.mem_filter.mp ha).1
  have hb2 := List.mem_range.mp (List.mem_filter.mp hb).1
  have ha3 := ew_dcI.mp (List.mem_filter.mp ha).2
  have hb3 := ew_dcI.mp (List.mem_filter.mp hb).2
  have := ew_lab_e h ha2 hb2 ((ew_ks_i ha2 hb2).mp c)
  omega
theorem ew_xl_n' (hs : ew_srt e n) (hg : 0 < g) : (ew_xl g e n).Nodup := by
  refine List.Pairwise.imp ?_ (ew_xl_p hs hg)
  intro a b h c
  subst c
  exact ew_lt_as h h
/-- the two lists of sessions are one, but for the order; f is X's sequence, e is Y's -/
theorem ew_xy {f : Nat → ew_E} (hp : (ew_L f n).Perm (ew_L e n)) (hs : ew_srt f n) (hg : 0 < g) (h : ew_lab g e n lb) : (ew_yl g e n lb).Perm (ew_xl g f n) := by
  refine (List.perm_ext_iff_of_nodup (ew_yl_n h) (ew_xl_n' hs hg)).mpr ?_
  intro ks
  rw [ew_yl_m h, ew_xl_m hs hg, ew_Mp hp]
/-- the rank of a representative is the place of its session -/
theorem ew_rank {f : Nat → ew_E} (hp : (ew_L f n).Perm (ew_L e n)) (hs : ew_srt f n) (hg : 0 < g) (h : ew_lab g e n lb) (hr : r < n) (hrr : lb r = r) {x : Nat} (hx : (ew_xl g f n)[x]? = some (ew_ks g e n r)) :
    ew_ct (fun q => ew_dc (lb q = q ∧ ew_lt (ew_ks g e n q) (ew_ks g e n r))) n = x := by
  rw [ew_ct_r, ← ew_rk ew_lt (fun _ _ => ew_lt_as) _ (ew_xl_p hs hg) x _ hx, ← (ew_xy hp hs hg h).countP_eq _]
  unfold ew_yl
  rw [List.countP_map, List.countP_filter]
  apply List.countP_congr
  intro q _
  show ew_dc (lb q = q ∧ ew_lt (ew_ks g e n q) (ew_ks g e n r)) = true ↔ (ew_dc (ew_lt (ew_ks g e n q) (ew_ks g e n r)) && ew_dc (lb q = q)) = true
  rw [ew_dcI, Bool.and_eq_true, ew_dcI, ew_dcI]
  exact And.comm
theorem ew_rankx {f : Nat → ew_E} (hp : (ew_L f n).Perm (ew_L e n)) (hs : ew_srt f n) (hg : 0 < g) (h : ew_lab g e n lb) (hr : r < n) (hrr : lb r = r) {x : Nat}
    (hx : ew_ct (fun q => ew_dc (lb q = q ∧ ew_lt (ew_ks g e n q) (ew_ks g e n r))) n = x) : (ew_xl g f n)[x]? = some (ew_ks g e n r) := by
  have m : ew_ks g e n r ∈ ew_xl g f n := (ew_xl_m hs hg).mpr (by rw [ew_Mp hp]; exact ew_ks_O hr)
  obtain ⟨y, hy⟩ := List.mem_iff_getElem?.mp m
  have := ew_rank hp hs hg h hr hrr hy
  rw [← hx, this]
  exact hy
theorem ew_repx {f : Nat → ew_E} (hp : (ew_L f n).Perm (ew_L e n)) (hs : ew_srt f n) (hg : 0 < g) (h : ew_lab g e n lb) {x : Nat} (hx : x < (ew_xl g f n).length) :
    ∃ r, r < n ∧ lb r = r ∧ ew_ct (fun q => ew_dc (lb q = q ∧ ew_lt (ew_ks g e n q) (ew_ks g e n r))) n = x := by
  have m : (ew_xl g f n)[x] ∈ ew_yl g e n lb := (ew_xy hp hs hg h).mem_iff.mpr (List.getElem_mem hx)
  unfold ew_yl at m
  obtain ⟨r, hr, he⟩ := List.mem_map.mp m
  obtain ⟨h1, h2⟩ := List.mem_filter.mp hr
  refine ⟨r, List.mem_range.mp h1, ew_dcI.mp h2, ew_rank hp hs hg h (List.mem_range.mp h1) (ew_dcI.mp h2) ?_⟩
  rw [he]
  exact List.getElem?_eq_getElem hx
theorem ew_cnt {f : Nat → ew_E} (hp : (ew_L f n).Perm (ew_L e n)) (hs : ew_srt f n) (hg : 0 < g) (h : ew_lab g e n lb) : ew_ct (fun i => ew_dc (lb i = i)) n = (ew_xl g f n).length := by
  rw [← (ew_xy hp hs hg h).length_eq]
  unfold ew_yl
  rw [List.length_map, ew_ct_r, List.countP_eq_length_filter]
end
