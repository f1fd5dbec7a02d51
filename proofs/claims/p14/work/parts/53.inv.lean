/-! the picture of the first object, and how the calls move it -/
section
variable {g l W k s : Nat} {E X : List ew_E} {P Rt : List ew_P} {kd : Int32}
theorem fw_cnt {α : Type} {a b c : α → Bool} : ∀ (P : List α), (∀ x, x ∈ P → (a x = true → b x = true → False) ∧ (a x = true → c x = true) ∧ (b x = true → c x = true)) → (P.filter a).length + (P.filter b).length ≤ (P.filter c).length := by
  intro P
  induction P with
  | nil => intro _; exact Nat.le_refl _
  | cons x P ih =>
    intro h
    have IH := ih (fun y hy => h y (List.mem_cons_of_mem _ hy))
    obtain ⟨h1, h2, h3⟩ := h x List.mem_cons_self
    by_cases ca : a x = true
    · have cb : ¬ b x = true := fun z => h1 ca z
      rw [List.filter_cons_of_pos ca, List.filter_cons_of_neg cb, List.filter_cons_of_pos (h2 ca), List.length_cons, List.length_cons]
      omega
    · rw [List.filter_cons_of_neg ca]
      by_cases cb : b x = true
      · rw [List.filter_cons_of_pos cb, List.filter_cons_of_pos (h3 cb), List.length_cons, List.length_cons]
        omega
      · rw [List.filter_cons_of_neg cb]
        by_cases cc : c x = true
        · rw [List.filter_cons_of_pos cc, List.length_cons]
          omega
        · rw [List.filter_cons_of_neg cc]
          exact IH
theorem fw_cnt1 {α : Type} {a c : α → Bool} (P : List α) (h : ∀ x, x ∈ P → a x = true → c x = true) : (P.filter a).length ≤ (P.filter c).length := by
  have := fw_cnt (a := a) (b := fun _ => false) (c := c) P (fun x hx => ⟨fun _ z => (by cases z), h x hx, fun z => (by cases z)⟩)
  omega
def fw_bd (g : Nat) (E : List ew_E) : Prop := 0 < g ∧ g ≤ 1000 ∧ E.length < 32 ∧ ∀ k t, ew_M E k t → k ≤ 7 ∧ t ≤ 1000000
theorem fw_xb (h : fw_bd g E) {p : ew_P} (hp : fw_PJ g (ew_M E) p) : ew_xb p := by
  obtain ⟨m, b, mb, _, _, he⟩ := hp
  have h1 := h.2.2.2 _ _ m
  have h2 := h.2.2.2 _ _ mb
  have h3 := h.2.1
  refine ⟨h1.1, by omega, by omega⟩
noncomputable def fw_bp (g : Nat) (E : List ew_E) (L : List (Nat × Nat)) (p : ew_P) : Bool := ew_dc (∃ ks, ks ∈ L ∧ ew_bl (ew_ss g E ks) p)
theorem fw_ff_J (hb : fw_bd g E) (hk : kd = 1 ∨ kd = 2 ∨ kd = 3) {t : Nat → Bool} : ∀ (L : List (Nat × Nat)) (st : List ew_P × ew_R) (len : Nat), (∀ x, x ∈ L → ew_O g (ew_M E) x.1 x.2) → L.Nodup → fw_K g E st.1 → fw_J st.1 Rt st.2 len → len + L.length + (st.1.filter (fw_bp g E L)).length ≤ 64 →
    ∃ len', len' ≤ len + L.length + (st.1.filter (fw_bp g E L)).length ∧ fw_J (L.foldl (ew_fs kd t g E) st).1 Rt (L.foldl (ew_fs kd t g E) st).2 len' := by
  intro L
  induction L with
  | nil =>
    intro st len _ _ _ hJ _
    exact ⟨len, by omega, hJ⟩
  | cons a L ih =>
    intro st len hO hn hK hJ hl
    have ha := hO a List.mem_cons_self
    obtain ⟨n1, n2⟩ := List.nodup_cons.mp hn
    rw [List.length_cons] at hl ⊢
    rw [List.foldl_cons]
    have hO' : ∀ x, x ∈ L → ew_O g (ew_M E) x.1 x.2 := fun x hx => hO x (List.mem_cons_of_mem _ hx)
    by_cases c : t (ew_ss g E a).2.2.1 = true
    · rw [ew_fs_y c]
      have dis : ∀ p, fw_PJ g (ew_M E) p → ew_bl (ew_ss g E a) p → ¬ fw_bp g E L p = true := by
        intro p hp hbl z
        obtain ⟨ks, hks, hb2⟩ := ew_dcI.mp z
        obtain ⟨_, b, _, _, l1, l2⟩ := hp
        have hg := hb.1
        have := fw_dis (k := a.1) (s := a.2) (k' := ks.1) (s' := ks.2) ha (hO' ks hks) (by omega) hbl hb2
        exact n1 ((Prod.ext this.1 this.2 : a = ks) ▸ hks)
      have c1 : (ew_B (ew_ss g E a) st.1).length + ((ew_N (ew_ss g E a) st.1).filter (fw_bp g E L)).length ≤ (st.1.filter (fw_bp g E (a :: L))).length := by
        unfold ew_B ew_N
        rw [List.filter_filter]
        refine fw_cnt st.1 (fun p hp => ⟨fun z1 z2 => ?_, fun z1 => ew_dcI.mpr ⟨a, List.mem_cons_self, ew_dcI.mp z1⟩, fun z2 => ?_⟩)
        · exact (ew_dcI.mp ((Bool.and_eq_true _ _).mp z2).2) (ew_dcI.mp z1)
        · obtain ⟨ks, hks, hb2⟩ := ew_dcI.mp ((Bool.and_eq_true _ _).mp z2).1
          exact ew_dcI.mpr ⟨ks, List.mem_cons_of_mem _ hks, hb2⟩
      have hN : (ew_N (ew_ss g E a) st.1).length < 32 := by
        have h1 := fw_len hK
        have h2 : (ew_N (ew_ss g E a) st.1).length ≤ st.1.length := List.length_filter_le _ _
        have h3 := hb.2.2.1
        omega
      obtain ⟨len1, _, l1, J1⟩ := fw_J_fi (kd := kd) hJ hk (fw_xb hb (fw_PJ_n (k := a.1) (s := a.2) ha)) (fun p hp => fw_xb hb (hK.2 p hp)) (by show len + (ew_B (ew_ss g E a) st.1).length + 1 ≤ 64; omega) hN
      have l1' : len1 ≤ len + (ew_B (ew_ss g E a) st.1).length + 1 := l1
      have K1 : fw_K g E (ew_fi kd st (ew_ss g E a)).1 := fw_K_fi (P := st.1) (R := st.2) (k := a.1) (s := a.2) hb.1 ha hK
      have c2 : ((ew_fi kd st (ew_ss g E a)).1.filter (fw_bp g E L)).length + (ew_B (ew_ss g E a) st.1).length ≤ (st.1.filter (fw_bp g E (a :: L))).length := by
        by_cases d : ew_B (ew_ss g E a) st.1 = [ew_ss g E a]
        · rw [ew_fi_y d]
          have e1 : st.1.filter (fw_bp g E L) = (ew_N (ew_ss g E a) st.1).filter (fw_bp g E L) := by
            unfold ew_N
            rw [List.filter_filter]
            apply List.filter_congr
            intro p hp
            rw [Bool.eq_iff_iff, Bool.and_eq_true, ew_dcI]
            exact ⟨fun z => ⟨z, fun z2 => dis p (hK.2 p hp) z2 z⟩, fun z => z.1⟩
          rw [e1]
          omega
        · rw [ew_fi_n d]
          dsimp only
          rw [if_pos hN, ((ew_ins_p (ew_ss g E a) (ew_N (ew_ss g E a) st.1)).filter _).length_eq, List.filter_cons_of_neg (dis _ (fw_PJ_n (k := a.1) (s := a.2) ha) (fw_bl_r _))]
          omega
      obtain ⟨len2, l2, J2⟩ := ih (ew_fi kd st (ew_ss g E a)) len1 hO' n2 K1 J1 (by omega)
      exact ⟨len2, by omega, J2⟩
    · rw [ew_fs_n c]
      have c1 : (st.1.filter (fw_bp g E L)).length ≤ (st.1.filter (fw_bp g E (a :: L))).length := by
        refine fw_cnt1 st.1 (fun p _ z => ?_)
        obtain ⟨ks, hks, hb2⟩ := ew_dcI.mp z
        exact ew_dcI.mpr ⟨ks, List.mem_cons_of_mem _ hks, hb2⟩
      obtain ⟨len2, l2, J2⟩ := ih st len hO' n2 hK hJ (by omega)
      exact ⟨len2, by omega, J2⟩
theorem fw_ff_K {t : Nat → Bool} (hg : 0 < g) : ∀ (L : List (Nat × Nat)) (st : List ew_P × ew_R), (∀ x, x ∈ L → ew_O g (ew_M E) x.1 x.2) → fw_K g E st.1 → fw_K g E (L.foldl (ew_fs kd t g E) st).1 := by
  intro L
  induction L with
  | nil => intro st _ h; exact h
  | cons a L ih =>
    intro st hO h
    exact ih _ (fun x hx => hO x (List.mem_cons_of_mem _ hx)) (fw_fs_K hg (hO a List.mem_cons_self) h)
/-- the picture: events E in store, expired events X; panes P, and Rt for the expired sessions -/
def fw_X (g l W : Nat) (E X : List ew_E) (P Rt : List ew_P) : Prop := fw_K g E P ∧ (∀ ks : Nat × Nat, ew_O g (ew_M E) ks.1 ks.2 → (ew_ss g E ks).2.2.1 ≤ W → fw_sy g E P ks) ∧ (∀ k a b, ew_M E k a → ew_M X k b → a + g ≤ b ∨ b + g ≤ a) ∧ (∀ k b, ew_M X k b → b + g + l ≤ W) ∧ fw_SL g X Rt
theorem fw_X_early (hb : fw_bd g E) {L : List (Nat × Nat)} (hL : ∀ x, x ∈ L → ew_O g (ew_M E) x.1 x.2) {R : ew_R} {t : Nat → Bool} (h : fw_X g l W E X P Rt) : fw_X g l W E X (L.foldl (ew_fs kd t g E) (P, R)).1 Rt := by
  obtain ⟨h1, h2, h3, h4, h5⟩ := h
  exact ⟨fw_ff_K hb.1 L (P, R) hL h1, fun ks ho he => fw_ff_sy hb.1 hb.2.2.1 ho L (P, R) hL h1 (Or.inl (h2 ks ho he)), h3, h4, h5⟩
theorem fw_X_fire (hb : fw_bd g E) {L : List (Nat × Nat)} (hL : ∀ x, x ∈ L ↔ ew_O g (ew_M E) x.1 x.2) {R : ew_R} {W' : Nat} (hW : W ≤ W') (h : fw_X g l W E X P Rt) : fw_X g l W' E X (L.foldl (ew_fs kd (fun z => ew_dc (z ≤ W')) g E) (P, R)).1 Rt := by
  obtain ⟨h1, h2, h3, h4, h5⟩ := h
  have hL' : ∀ x, x ∈ L → ew_O g (ew_M E) x.1 x.2 := fun x hx => (hL x).mp hx
  refine ⟨fw_ff_K hb.1 L (P, R) hL' h1, fun ks ho he => fw_ff_sy hb.1 hb.2.2.1 ho L (P, R) hL' h1 (Or.inr ⟨(hL ks).mpr ho, ew_dcI.mpr he⟩), h3, fun k b m => ?_, h5⟩
  have := h4 k b m
  omega
end
