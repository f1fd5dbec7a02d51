/-! what Y's runs over the labels reckon -/
section
variable {g n r j : Nat} {e : Nat → ew_E} {lb : Nat → Nat}
noncomputable def ew_mn (p : Nat → Prop) (T : Nat → Nat) : Nat → Nat
  | 0 => 1000001
  | m + 1 => if ew_dc (p m ∧ T m < ew_mn p T m) = true then T m else ew_mn p T m
noncomputable def ew_mr (p : Nat → Prop) (T : Nat → Nat) : Nat → Nat
  | 0 => 0
  | m + 1 => if ew_dc (p m ∧ ew_mr p T m < T m + 1) = true then T m + 1 else ew_mr p T m
theorem ew_mn_y {p : Nat → Prop} {T : Nat → Nat} {m : Nat} (h : p m ∧ T m < ew_mn p T m) : ew_mn p T (m + 1) = T m := by
  rw [ew_mn, if_pos (ew_dcI.mpr h)]
theorem ew_mn_n {p : Nat → Prop} {T : Nat → Nat} {m : Nat} (h : ¬ (p m ∧ T m < ew_mn p T m)) : ew_mn p T (m + 1) = ew_mn p T m := by
  rw [ew_mn, if_neg (fun z => h (ew_dcI.mp z))]
theorem ew_mr_y {p : Nat → Prop} {T : Nat → Nat} {m : Nat} (h : p m ∧ ew_mr p T m < T m + 1) : ew_mr p T (m + 1) = T m + 1 := by
  rw [ew_mr, if_pos (ew_dcI.mpr h)]
theorem ew_mr_n {p : Nat → Prop} {T : Nat → Nat} {m : Nat} (h : ¬ (p m ∧ ew_mr p T m < T m + 1)) : ew_mr p T (m + 1) = ew_mr p T m := by
  rw [ew_mr, if_neg (fun z => h (ew_dcI.mp z))]
theorem ew_mn_u {p : Nat → Prop} {T : Nat → Nat} : ∀ m, ew_mn p T m ≤ 1000001 := by
  intro m
  induction m with
  | zero => exact Nat.le_refl _
  | succ m ih =>
    by_cases c : p m ∧ T m < ew_mn p T m
    · rw [ew_mn_y c]
      omega
    · rw [ew_mn_n c]
      exact ih
theorem ew_mn_le {p : Nat → Prop} {T : Nat → Nat} : ∀ m j, j < m → p j → ew_mn p T m ≤ T j := by
  intro m
  induction m with
  | zero => intro j h; omega
  | succ m ih =>
    intro j h hp
    by_cases c : p m ∧ T m < ew_mn p T m
    · rw [ew_mn_y c]
      by_cases d : j = m
      · rw [d]
        exact Nat.le_refl _
      · have := ih j (by omega) hp
        omega
    · rw [ew_mn_n c]
      by_cases d : j = m
      · subst d
        exact Nat.not_lt.mp fun z => c ⟨hp, z⟩
      · exact ih j (by omega) hp
theorem ew_mn_mem {p : Nat → Prop} {T : Nat → Nat} : ∀ m, ew_mn p T m = 1000001 ∨ ∃ j, j < m ∧ p j ∧ ew_mn p T m = T j := by
  intro m
  induction m with
  | zero => exact Or.inl rfl
  | succ m ih =>
    by_cases c : p m ∧ T m < ew_mn p T m
    · exact Or.inr ⟨m, Nat.lt_succ_self m, c.1, ew_mn_y c⟩
    · rw [ew_mn_n c]
      rcases ih with h | ⟨j, h1, h2, h3⟩
      · exact Or.inl h
      · exact Or.inr ⟨j, by omega, h2, h3⟩
theorem ew_mr_le {p : Nat → Prop} {T : Nat → Nat} : ∀ m j, j < m → p j → T j + 1 ≤ ew_mr p T m := by
  intro m
  induction m with
  | zero => intro j h; omega
  | succ m ih =>
    intro j h hp
    by_cases c : p m ∧ ew_mr p T m < T m + 1
    · rw [ew_mr_y c]
      by_cases d : j = m
      · rw [d]
        exact Nat.le_refl _
      · have := ih j (by omega) hp
        omega
    · rw [ew_mr_n c]
      by_cases d : j = m
      · subst d
        exact Nat.not_lt.mp fun z => c ⟨hp, z⟩
      · exact ih j (by omega) hp
theorem ew_mr_mem {p : Nat → Prop} {T : Nat → Nat} : ∀ m, ew_mr p T m = 0 ∨ ∃ j, j < m ∧ p j ∧ ew_mr p T m = T j + 1 := by
  intro m
  induction m with
  | zero => exact Or.inl rfl
  | succ m ih =>
    by_cases c : p m ∧ ew_mr p T m < T m + 1
    · exact Or.inr ⟨m, Nat.lt_succ_self m, c.1, ew_mr_y c⟩
    · rw [ew_mr_n c]
      rcases ih with h | ⟨j, h1, h2, h3⟩
      · exact Or.inl h
      · exact Or.inr ⟨j, by omega, h2, h3⟩
theorem ew_ksi (hr : r < n) (hj : j < n) (s : ew_si g e n r j) : ew_S g (ew_M (ew_L e n)) (e r).1 (ew_ks g e n r).2 (e j).2.1 := ew_St (ew_ks_S hr) s.2
theorem ew_mnY (hb : ∀ i, i < n → (e i).2.1 ≤ 1000000) (h : ew_lab g e n lb) (hr : r < n) (hrr : lb r = r) : ew_mn (fun j => lb j = r) (fun j => (e j).2.1) n = (ew_ks g e n r).2 := by
  have ho := ew_ks_O (g := g) (e := e) hr
  obtain ⟨j0, h0, h1, h2⟩ := ew_ML.mp ho.1
  have s0 : ew_si g e n r j0 := ⟨h1, by rw [h2]; exact ew_Ss (ew_ks_S hr)⟩
  have le := ew_mn_le (p := fun j => lb j = r) (T := fun j => (e j).2.1) n j0 h0 ((ew_lab_c h hr hrr h0).mpr s0)
  rcases ew_mn_mem (p := fun j => lb j = r) (T := fun j => (e j).2.1) n with c | ⟨j, hj, hl, he⟩
  · have := hb j0 h0
    omega
  · have := ew_lo ho (ew_ksi hr hj ((ew_lab_c h hr hrr hj).mp hl))
    omega
theorem ew_mrY (h : ew_lab g e n lb) (hr : r < n) (hrr : lb r = r) : ∃ b, ew_mr (fun j => lb j = r) (fun j => (e j).2.1) n = b + 1 ∧ (ew_ss g (ew_L e n) (ew_ks g e n r)).2.2.1 = b + g := by
  have ho := ew_ks_O (g := g) (e := e) hr
  obtain ⟨b, mb, sb, he, _, mx⟩ := ew_ss_e ho
  refine ⟨b, ?_, he⟩
  obtain ⟨j0, h0, h1, h2⟩ := ew_ML.mp mb
  have s0 : ew_si g e n r j0 := ⟨h1, by rw [h2]; exact ew_St (ew_Ss (ew_ks_S hr)) sb⟩
  have le := ew_mr_le (p := fun j => lb j = r) (T := fun j => (e j).2.1) n j0 h0 ((ew_lab_c h hr hrr h0).mpr s0)
  rcases ew_mr_mem (p := fun j => lb j = r) (T := fun j => (e j).2.1) n with c | ⟨j, hj, hl, he2⟩
  · omega
  · have sj := (ew_lab_c h hr hrr hj).mp hl
    have mj : ew_M (ew_L e n) (e j).1 (e j).2.1 := ew_iM hj
    rw [sj.1] at mj
    have := mx _ mj (ew_ksi hr hj sj)
    omega
theorem ew_smY (h : ew_lab g e n lb) (hr : r < n) (hrr : lb r = r) : ew_su (fun j => ew_dc (lb j = r)) (fun j => (e j).2.2) n = (ew_ss g (ew_L e n) (ew_ks g e n r)).2.2.2 := by
  show _ = ew_sm ((ew_L e n).filter (ew_cl g (ew_L e n) (ew_ks g e n r).1 (ew_ks g e n r).2))
  rw [ew_su_L]
  exact ew_su_c (fun j hj => ⟨(ew_clY h hr hrr hj).symm, rfl⟩)
theorem ew_scY (h : ew_lab g e n lb) (hr : r < n) (hrr : lb r = r) : ew_ct (fun j => ew_dc (lb j = r)) n = ew_sc g (ew_L e n) (ew_ks g e n r) := by
  unfold ew_sc
  rw [ew_ct_L]
  exact ew_ct_c (fun j hj => (ew_clY h hr hrr hj).symm)
end
