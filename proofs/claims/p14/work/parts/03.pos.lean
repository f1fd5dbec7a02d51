/-! sorted positions: blocks, sums, counts -/
section
variable {g n i j q : Nat} {e : Nat → ew_E}
theorem ew_ML {k t : Nat} : ew_M (ew_L e n) k t ↔ ∃ i, i < n ∧ (e i).1 = k ∧ (e i).2.1 = t := by
  constructor
  · rintro ⟨v, m⟩
    obtain ⟨i, hi, h⟩ := ew_Lm.mp m
    exact ⟨i, hi, by rw [h], by rw [h]⟩
  · rintro ⟨i, hi, h1, h2⟩
    subst h1 h2
    exact ⟨(e i).2.2, ew_Lm.mpr ⟨i, hi, rfl⟩⟩
theorem ew_iM (h : i < n) : ew_M (ew_L e n) (e i).1 (e i).2.1 := ew_ML.mpr ⟨i, h, rfl, rfl⟩
def ew_srt (e : Nat → ew_E) (n : Nat) : Prop := ∀ i j, i ≤ j → j < n → (e i).1 < (e j).1 ∨ ((e i).1 = (e j).1 ∧ (e i).2.1 ≤ (e j).2.1)
def ew_op (g : Nat) (e : Nat → ew_E) (i : Nat) : Prop := i = 0 ∨ (e i).1 ≠ (e (i - 1)).1 ∨ (e (i - 1)).2.1 + g ≤ (e i).2.1
def ew_blk (g : Nat) (e : Nat → ew_E) (n i q : Nat) : Prop := i < q ∧ q ≤ n ∧ (∀ j, i < j → j < q → ¬ ew_op g e j) ∧ (q < n → ew_op g e q)
theorem ew_opO (hs : ew_srt e n) (hi : i < n) (ho : ew_op g e i) : ew_O g (ew_M (ew_L e n)) (e i).1 (e i).2.1 := by
  refine ⟨ew_iM hi, fun t' m l => ?_⟩
  obtain ⟨j, hj, h1, h2⟩ := ew_ML.mp m
  subst h2
  have hji : j < i := Nat.not_le.mp fun q => by
    have := hs i j q hj
    omega
  have h3 := hs j (i - 1) (by omega) (by omega)
  have h4 := hs (i - 1) i (by omega) hi
  unfold ew_op at ho
  omega
theorem ew_bf (hs : ew_srt e n) (hb : ew_blk g e n i q) : ∀ j, i ≤ j → j < q → (e j).1 = (e i).1 ∧ ew_S g (ew_M (ew_L e n)) (e i).1 (e i).2.1 (e j).2.1 := by
  intro j
  induction j with
  | zero =>
    intro h _
    have : i = 0 := by omega
    subst this
    exact ⟨rfl, ew_Sr⟩
  | succ j ih =>
    intro h1 h2
    by_cases c : i = j + 1
    · subst c
      exact ⟨rfl, ew_Sr⟩
    · obtain ⟨a, b⟩ := ih (by omega) (by omega)
      have hq := hb.2.1
      have hn := hb.2.2.1 (j + 1) (by omega) h2
      have h3 := hs j (j + 1) (by omega) (by omega)
      have hn' : (e (j + 1)).1 = (e j).1 ∧ (e (j + 1)).2.1 < (e j).2.1 + g := by
        unfold ew_op at hn
        rw [Nat.add_sub_cancel] at hn
        omega
      refine ⟨hn'.1.trans a, ew_St b ?_⟩
      have m : ew_M (ew_L e n) (e j).1 (e j).2.1 := ew_iM (by omega)
      rw [a] at m
      exact ew_lk m (by omega) hn'.2
theorem ew_bb (hs : ew_srt e n) (hg : 0 < g) (ho : ew_op g e i) (hb : ew_blk g e n i q) (hj : j < n) (hk : (e j).1 = (e i).1) (s : ew_S g (ew_M (ew_L e n)) (e i).1 (e i).2.1 (e j).2.1) : i ≤ j ∧ j < q := by
  have hiq := hb.1
  have hqn := hb.2.1
  have hi : i < n := by omega
  have O := ew_opO hs hi ho
  have h0 := (s _ O).mp (Nat.le_refl _)
  constructor
  · refine Nat.not_lt.mp fun c => ?_
    have h3 := hs j (i - 1) (by omega) (by omega)
    have h4 := hs (i - 1) i (by omega) hi
    unfold ew_op at ho
    omega
  · refine Nat.not_le.mp fun c => ?_
    have hq : q < n := by omega
    have oq := hb.2.2.2 hq
    have h5 := hs i q (by omega) hq
    have h6 := hs q j c hj
    have kq : (e q).1 = (e i).1 := by omega
    have O2 := ew_opO hs hq oq
    rw [kq] at O2
    have h7 := (s _ O2).mpr (by omega)
    have h8 := hs i (q - 1) (by omega) (by omega)
    have h9 := hs (q - 1) q (by omega) hq
    unfold ew_op at oq
    omega
theorem ew_bx (hi : i < n) : ∃ q, ew_blk g e n i q := by
  obtain ⟨q, ⟨h1, h2⟩, mn⟩ := pk_least (fun q => i < q ∧ (q = n ∨ ew_op g e q)) ⟨n, hi, Or.inl rfl⟩
  have hq : q ≤ n := Nat.not_lt.mp fun c => mn n c ⟨hi, Or.inl rfl⟩
  refine ⟨q, h1, hq, fun j l1 l2 o => mn j l2 ⟨l1, Or.inr o⟩, fun c => ?_⟩
  rcases h2 with h2 | h2
  · omega
  · exact h2
def ew_su (p : Nat → Bool) (v : Nat → Int32) : Nat → Int32
  | 0 => 0
  | m + 1 => if p m = true then ew_su p v m + v m else ew_su p v m
def ew_ct (p : Nat → Bool) : Nat → Nat
  | 0 => 0
  | m + 1 => if p m = true then ew_ct p m + 1 else ew_ct p m
theorem ew_su_L (e : Nat → ew_E) (P : ew_E → Bool) : ∀ m, ew_sm ((ew_L e m).filter P) = ew_su (fun i => P (e i)) (fun i => (e i).2.2) m := by
  intro m
  induction m with
  | zero => rfl
  | succ m ih =>
    rw [ew_Ls, List.filter_append, ew_sm_a, ih, ew_su]
    by_cases h : P (e m) = true
    · rw [if_pos h, List.filter_cons_of_pos h]
      show _ + ((e m).2.2 + 0) = _
      rw [Int32.add_zero]
    · rw [if_neg h, List.filter_cons_of_neg h]
      show _ + (0 : Int32) = _
      rw [Int32.add_zero]
theorem ew_ct_L {α : Type} (e : Nat → α) (P : α → Bool) : ∀ m, ((ew_L e m).filter P).length = ew_ct (fun i => P (e i)) m := by
  intro m
  induction m with
  | zero => rfl
  | succ m ih =>
    rw [ew_Ls, List.filter_append, List.length_append, ih, ew_ct]
    by_cases h : P (e m) = true
    · rw [if_pos h, List.filter_cons_of_pos h]
      rfl
    · rw [if_neg h, List.filter_cons_of_neg h]
      rfl
theorem ew_su_c {p p' : Nat → Bool} {v v' : Nat → Int32} {m : Nat} (h : ∀ i, i < m → p i = p' i ∧ v i = v' i) : ew_su p v m = ew_su p' v' m := by
  induction m with
  | zero => rfl
  | succ m ih =>
    rw [ew_su, ew_su, ih (fun i hi => h i (by omega)), (h m (by omega)).1, (h m (by omega)).2]
theorem ew_ct_c {p p' : Nat → Bool} {m : Nat} (h : ∀ i, i < m → p i = p' i) : ew_ct p m = ew_ct p' m := by
  induction m with
  | zero => rfl
  | succ m ih =>
    rw [ew_ct, ew_ct, ih (fun i hi => h i (by omega)), h m (by omega)]
theorem ew_ct_le (p : Nat → Bool) : ∀ m, ew_ct p m ≤ m := by
  intro m
  induction m with
  | zero => exact Nat.le_refl 0
  | succ m ih =>
    rw [ew_ct]
    split <;> omega
theorem ew_ct_mono {p p' : Nat → Bool} {m : Nat} (h : ∀ i, i < m → p i = true → p' i = true) : ew_ct p m ≤ ew_ct p' m := by
  induction m with
  | zero => exact Nat.le_refl 0
  | succ m ih =>
    have := ih (fun i hi => h i (by omega))
    have h2 := h m (by omega)
    rw [ew_ct, ew_ct]
    by_cases c : p m = true
    · rw [if_pos c, if_pos (h2 c)]
      omega
    · rw [if_neg c]
      split <;> omega
theorem ew_ct_lt {p p' : Nat → Bool} {m x : Nat} (h : ∀ i, i < m → p i = true → p' i = true) (hx : x < m) (hp : ¬ p x = true) (hp' : p' x = true) : ew_ct p m < ew_ct p' m := by
  induction m with
  | zero => omega
  | succ m ih =>
    rw [ew_ct, ew_ct]
    by_cases c : x = m
    · subst c
      have := ew_ct_mono (fun i hi => h i (Nat.lt_succ_of_lt hi))
      rw [if_neg hp, if_pos hp']
      omega
    · have := ih (fun i hi => h i (by omega)) (by omega)
      have h2 := h m (by omega)
      by_cases d : p m = true
      · rw [if_pos d, if_pos (h2 d)]
        omega
      · rw [if_neg d]
        split <;> omega
theorem ew_ct_r (p : Nat → Bool) : ∀ m, ew_ct p m = (List.range m).countP p := by
  intro m
  induction m with
  | zero => rfl
  | succ m ih =>
    rw [ew_ct, List.range_succ, List.countP_append, ih]
    by_cases h : p m = true
    · rw [if_pos h, List.countP_cons_of_pos h]
      rfl
    · rw [if_neg h, List.countP_cons_of_neg h]
      rfl
/-- the positions of a block -/
noncomputable def ew_in (i q : Nat) (j : Nat) : Bool := ew_dc (i ≤ j ∧ j < q)
theorem ew_inI : ew_in i q j = true ↔ i ≤ j ∧ j < q := ew_dcI
theorem ew_su_0 (v : Nat → Int32) (m : Nat) (h : m ≤ i) : ew_su (ew_in i q) v m = 0 := by
  induction m with
  | zero => rfl
  | succ m ih =>
    have hn : ¬ ew_in i q m = true := fun z => by
      have := ew_inI.mp z
      omega
    rw [ew_su, if_neg hn, ih (by omega)]
theorem ew_su_1 (v : Nat → Int32) (d : Nat) : ew_su (ew_in i q) v (q + d) = ew_su (ew_in i q) v q := by
  induction d with
  | zero => rfl
  | succ d ih =>
    have hn : ¬ ew_in i q (q + d) = true := fun z => by
      have := ew_inI.mp z
      omega
    rw [← Nat.add_assoc, ew_su, if_neg hn, ih]
theorem ew_ct_b (m : Nat) : ew_ct (ew_in i q) m = (if m ≤ q then m else q) - i := by
  induction m with
  | zero =>
    show 0 = _
    rw [if_pos (Nat.zero_le _), Nat.zero_sub]
  | succ m ih =>
    rw [ew_ct, ih]
    by_cases h : i ≤ m ∧ m < q
    · rw [if_pos (ew_inI.mpr h), if_pos (show m ≤ q by omega), if_pos (show m + 1 ≤ q by omega)]
      omega
    · rw [if_neg (fun z => h (ew_inI.mp z))]
      by_cases c : m + 1 ≤ q
      · rw [if_pos (show m ≤ q by omega), if_pos c]
        omega
      · rw [if_neg c]
        split <;> omega
theorem ew_clX (hs : ew_srt e n) (hg : 0 < g) (ho : ew_op g e i) (hb : ew_blk g e n i q) (hj : j < n) : ew_cl g (ew_L e n) (e i).1 (e i).2.1 (e j) = ew_in i q j :=
  ew_dcC ⟨fun z => ew_bb hs hg ho hb hj z.1 z.2, fun z => ew_bf hs hb j z.1 z.2⟩
/-- the session that opens at position i, as its block shows it -/
theorem ew_sX (hs : ew_srt e n) (hg : 0 < g) (ho : ew_op g e i) (hb : ew_blk g e n i q) :
    ew_ss g (ew_L e n) ((e i).1, (e i).2.1) = ((e i).1, (e i).2.1, (e (q - 1)).2.1 + g, ew_su (ew_in i q) (fun j => (e j).2.2) q) ∧ ew_sc g (ew_L e n) ((e i).1, (e i).2.1) = q - i := by
  have hiq := hb.1
  have hqn := hb.2.1
  have h1 : ew_mx ((ew_L e n).filter (ew_cl g (ew_L e n) (e i).1 (e i).2.1)) = (e (q - 1)).2.1 := by
    apply ew_mx_eq
    · refine List.mem_filter.mpr ⟨ew_Lm.mpr ⟨q - 1, by omega, rfl⟩, ?_⟩
      rw [ew_clX hs hg ho hb (by omega)]
      exact ew_inI.mpr ⟨by omega, by omega⟩
    · intro y hy
      obtain ⟨hy1, hy2⟩ := List.mem_filter.mp hy
      obtain ⟨j, hj, rfl⟩ := ew_Lm.mp hy1
      rw [ew_clX hs hg ho hb hj] at hy2
      have hy3 := ew_inI.mp hy2
      have k1 := (ew_bf hs hb j hy3.1 hy3.2).1
      have k2 := (ew_bf hs hb (q - 1) (by omega) (by omega)).1
      have := hs j (q - 1) (by omega) (by omega)
      omega
  have h2 : ew_sm ((ew_L e n).filter (ew_cl g (ew_L e n) (e i).1 (e i).2.1)) = ew_su (ew_in i q) (fun j => (e j).2.2) q := by
    rw [ew_su_L, ew_su_c (p' := ew_in i q) (v' := fun j => (e j).2.2) (fun j hj => ⟨ew_clX hs hg ho hb hj, rfl⟩)]
    have := ew_su_1 (i := i) (q := q) (fun j => (e j).2.2) (n - q)
    rw [show q + (n - q) = n by omega] at this
    exact this
  constructor
  · unfold ew_ss
    dsimp only
    rw [h1, h2]
  · unfold ew_sc
    dsimp only
    rw [ew_ct_L, ew_ct_c (p' := ew_in i q) (fun j hj => ew_clX hs hg ho hb hj), ew_ct_b]
    split <;> omega
end
