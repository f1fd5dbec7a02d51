/-! panes, records, firing and expiring, without any machine -/
section
abbrev ew_R : Type := (Nat → Int32) × (Nat → Int32) × (Nat → Int32) × (Nat → Int32) × (Nat → Int32) × Int32
def ew_em (R : ew_R) (kind key s e v : Int32) : ew_R :=
  (upd R.1 (R.2.2.2.2.2 &&& 63).toNatClampNeg kind, upd R.2.1 (R.2.2.2.2.2 &&& 63).toNatClampNeg key, upd R.2.2.1 (R.2.2.2.2.2 &&& 63).toNatClampNeg s, upd R.2.2.2.1 (R.2.2.2.2.2 &&& 63).toNatClampNeg e, upd R.2.2.2.2.1 (R.2.2.2.2.2 &&& 63).toNatClampNeg v, R.2.2.2.2.2 + 1)
def ew_rt (R : ew_R) (p : ew_P) : ew_R := ew_em R 4 (nI p.1) (nI p.2.1) (nI p.2.2.1) p.2.2.2
/-- pane p belongs to session x -/
def ew_bl (x p : ew_P) : Prop := p.1 = x.1 ∧ x.2.1 ≤ p.2.1 ∧ p.2.2.1 ≤ x.2.2.1
noncomputable def ew_B (x : ew_P) (P : List ew_P) : List ew_P := P.filter (fun p => ew_dc (ew_bl x p))
noncomputable def ew_N (x : ew_P) (P : List ew_P) : List ew_P := P.filter (fun p => ew_dc (¬ ew_bl x p))
def ew_pk (p : ew_P) : Nat × Nat := (p.1, p.2.1)
def ew_pl (a b : ew_P) : Prop := ew_lt (ew_pk a) (ew_pk b)
theorem ew_pl_as {a b : ew_P} (h : ew_pl a b) : ¬ ew_pl b a := ew_lt_as h
noncomputable def ew_ins (x : ew_P) : List ew_P → List ew_P
  | [] => [x]
  | y :: l => if ew_dc (ew_pl x y) = true then x :: y :: l else y :: ew_ins x l
theorem ew_ins_p (x : ew_P) : ∀ l, (ew_ins x l).Perm (x :: l) := by
  intro l
  induction l with
  | nil => exact List.Perm.refl _
  | cons y l ih =>
    rw [ew_ins]
    split
    · exact List.Perm.refl _
    · exact (List.Perm.cons y ih).trans (List.Perm.swap x y l)
theorem ew_ins_s (x : ew_P) : ∀ l, l.Pairwise ew_pl → (∀ y, y ∈ l → ew_pk y ≠ ew_pk x) → (ew_ins x l).Pairwise ew_pl := by
  intro l
  induction l with
  | nil => intro _ _; exact List.pairwise_singleton _ _
  | cons y l ih =>
    intro hp hn
    obtain ⟨h1, h2⟩ := List.pairwise_cons.mp hp
    rw [ew_ins]
    split
    · rename_i c
      have c' := ew_dcI.mp c
      refine List.pairwise_cons.mpr ⟨fun z hz => ?_, hp⟩
      rcases List.mem_cons.mp hz with d | d
      · rw [d]
        exact c'
      · have h4 := h1 z d
        unfold ew_pl ew_lt at h4 c' ⊢
        omega
    · rename_i c
      have c' : ¬ ew_pl x y := fun z => c (ew_dcI.mpr z)
      refine List.pairwise_cons.mpr ⟨fun z hz => ?_, ih h2 (fun z hz => hn z (List.mem_cons_of_mem _ hz))⟩
      rcases List.mem_cons.mp ((ew_ins_p x l).mem_iff.mp hz) with d | d
      · rw [d]
        have h3 := hn y List.mem_cons_self
        unfold ew_pl ew_lt at c' ⊢
        by_cases k1 : (ew_pk y).1 = (ew_pk x).1
        · have k3 : (ew_pk y).2 ≠ (ew_pk x).2 := fun k2 => h3 (Prod.ext k1 k2)
          omega
        · omega
      · exact h1 z d
/-- a sorted list is fixed by its members -/
theorem ew_srt1 {l l' : List ew_P} (h : l.Pairwise ew_pl) (h' : l'.Pairwise ew_pl) (p : l.Perm l') : l = l' :=
  List.Perm.eq_of_pairwise (fun _ _ _ _ a b => absurd b (ew_pl_as a)) h h' p
/-- x fires with this kind: panes and records behind it -/
noncomputable def ew_fi (kind : Int32) (st : List ew_P × ew_R) (x : ew_P) : List ew_P × ew_R :=
  @ite _ (ew_B x st.1 = [x]) (Classical.propDecidable _) st
    (if (ew_N x st.1).length < 32 then ew_ins x (ew_N x st.1) else ew_N x st.1, ew_em ((ew_B x st.1).foldl ew_rt st.2) kind (nI x.1) (nI x.2.1) (nI x.2.2.1) x.2.2.2)
theorem ew_fi_y {kind : Int32} {st : List ew_P × ew_R} {x : ew_P} (h : ew_B x st.1 = [x]) : ew_fi kind st x = st := by
  unfold ew_fi
  exact if_pos h
theorem ew_fi_n {kind : Int32} {st : List ew_P × ew_R} {x : ew_P} (h : ¬ ew_B x st.1 = [x]) : ew_fi kind st x = (if (ew_N x st.1).length < 32 then ew_ins x (ew_N x st.1) else ew_N x st.1, ew_em ((ew_B x st.1).foldl ew_rt st.2) kind (nI x.1) (nI x.2.1) (nI x.2.2.1) x.2.2.2) := by
  unfold ew_fi
  exact if_neg h
/-- every pane lies in a session -/
def ew_PI (g : Nat) (M : Nat → Nat → Prop) (p : ew_P) : Prop := p.2.1 < p.2.2.1 ∧ ∃ a b, M p.1 a ∧ M p.1 b ∧ ew_S g M p.1 a b ∧ a ≤ p.2.1 ∧ p.2.2.1 ≤ b + g
def ew_G (g : Nat) (E : List ew_E) (P : List ew_P) : Prop := P.Pairwise ew_pl ∧ (∀ p, p ∈ P → ew_PI g (ew_M E) p) ∧ P.length ≤ 32
theorem ew_BN (x : ew_P) (P : List ew_P) : P.Perm (ew_B x P ++ ew_N x P) := by
  have e1 : (fun p => ! ew_dc (ew_bl x p)) = (fun p => ew_dc (¬ ew_bl x p)) := by
    funext p
    by_cases h : ew_bl x p
    · rw [ew_dcI.mpr h, ew_dcF.mpr (fun z => z h)]
      rfl
    · rw [ew_dcF.mpr h, ew_dcI.mpr h]
      rfl
  have h1 : (P.filter (fun p => ew_dc (ew_bl x p)) ++ P.filter (fun p => ! ew_dc (ew_bl x p))).Perm P := List.filter_append_perm _ P
  rw [e1] at h1
  exact h1.symm
theorem ew_B_m {x p : ew_P} {P : List ew_P} : p ∈ ew_B x P ↔ p ∈ P ∧ ew_bl x p := by
  unfold ew_B
  rw [List.mem_filter, ew_dcI]
theorem ew_N_m {x p : ew_P} {P : List ew_P} : p ∈ ew_N x P ↔ p ∈ P ∧ ¬ ew_bl x p := by
  unfold ew_N
  rw [List.mem_filter, ew_dcI]
variable {g : Nat} {E : List ew_E} {k s : Nat}
/-- the end of a session: its last event's time and the gap -/
theorem ew_ss_e (ho : ew_O g (ew_M E) k s) : ∃ b, ew_M E k b ∧ ew_S g (ew_M E) k s b ∧ (ew_ss g E (k, s)).2.2.1 = b + g ∧ s ≤ b ∧ ∀ b', ew_M E k b' → ew_S g (ew_M E) k s b' → b' ≤ b := by
  obtain ⟨v, hv⟩ := ho.1
  have hne : E.filter (ew_cl g E k s) ≠ [] := List.ne_nil_of_mem (List.mem_filter.mpr ⟨hv, ew_dcI.mpr ⟨rfl, ew_Sr⟩⟩)
  obtain ⟨x, hx, he⟩ := ew_mx_mem _ hne
  obtain ⟨x1, x2⟩ := List.mem_filter.mp hx
  obtain ⟨x3, x4⟩ := ew_dcI.mp x2
  obtain ⟨xk, xt, xv⟩ := x
  dsimp only at x3 x4 he
  subst x3
  refine ⟨xt, ⟨xv, x1⟩, x4, ?_, ew_lo ho x4, ?_⟩
  · show ew_mx (E.filter (ew_cl g E xk s)) + g = xt + g
    rw [he]
  · rintro b' ⟨v', m'⟩ s'
    have := ew_mx_le (E.filter (ew_cl g E xk s)) (xk, b', v') (List.mem_filter.mpr ⟨m', ew_dcI.mpr ⟨rfl, s'⟩⟩)
    rw [he] at this
    exact this
/-- a pane that begins where a session begins belongs to it -/
theorem ew_same (ho : ew_O g (ew_M E) k s) {p : ew_P} (hp : ew_PI g (ew_M E) p) (h1 : p.1 = k) (h2 : p.2.1 = s) : ew_bl (ew_ss g E (k, s)) p := by
  obtain ⟨b0, m0, s0, e0, l0, x0⟩ := ew_ss_e ho
  obtain ⟨lt, a, b, ma, mb, sab, la, lb⟩ := hp
  rw [h1] at ma mb sab
  refine ⟨h1, by rw [h2]; exact Nat.le_refl _, ?_⟩
  rw [e0]
  by_cases c : s ≤ b
  · have ha : s ≤ a := (sab s ho).mpr c
    have : a = s := by omega
    subst this
    have := x0 b mb sab
    omega
  · have := ho.2 b mb (by omega)
    omega
theorem ew_pi_new (hg : 0 < g) (ho : ew_O g (ew_M E) k s) : ew_PI g (ew_M E) (ew_ss g E (k, s)) := by
  obtain ⟨b0, m0, s0, e0, l0, x0⟩ := ew_ss_e ho
  refine ⟨?_, s, b0, ho.1, m0, s0, Nat.le_refl _, Nat.le_of_eq e0⟩
  rw [e0]
  show s < b0 + g
  omega
theorem ew_N_p {P : List ew_P} (x : ew_P) (h : P.Pairwise ew_pl) : (ew_N x P).Pairwise ew_pl := List.Pairwise.filter _ h
theorem ew_B_p {P : List ew_P} (x : ew_P) (h : P.Pairwise ew_pl) : (ew_B x P).Pairwise ew_pl := List.Pairwise.filter _ h
theorem ew_fi_G (hg : 0 < g) (ho : ew_O g (ew_M E) k s) {st : List ew_P × ew_R} {kind : Int32} (h : ew_G g E st.1) : ew_G g E (ew_fi kind st (ew_ss g E (k, s))).1 := by
  by_cases c : ew_B (ew_ss g E (k, s)) st.1 = [ew_ss g E (k, s)]
  · rw [ew_fi_y c]
    exact h
  · rw [ew_fi_n c]
    dsimp only
    obtain ⟨h1, h2, h3⟩ := h
    have hN : (ew_N (ew_ss g E (k, s)) st.1).length ≤ 32 := Nat.le_trans (List.length_filter_le _ _) h3
    split
    · rename_i d
      refine ⟨ew_ins_s _ _ (ew_N_p _ h1) ?_, ?_, ?_⟩
      · intro y hy z
        obtain ⟨y1, y2⟩ := ew_N_m.mp hy
        exact y2 (ew_same ho (h2 y y1) (congrArg Prod.fst z) (congrArg Prod.snd z))
      · intro p hp
        rcases List.mem_cons.mp ((ew_ins_p _ _).mem_iff.mp hp) with z | z
        · subst z
          exact ew_pi_new hg ho
        · exact h2 p (ew_N_m.mp z).1
      · rw [(ew_ins_p _ _).length_eq, List.length_cons]
        omega
    · exact ⟨ew_N_p _ h1, fun p hp => h2 p (ew_N_m.mp hp).1, hN⟩
/-- in sync: one pane belongs, and it is x -/
theorem ew_sync {x : ew_P} {P Q : List ew_P} (hp : P.Perm Q) : ew_B x P = [x] ↔ (ew_B x Q).length = 1 ∧ ∃ p, p ∈ Q ∧ ew_bl x p ∧ p.2.1 = x.2.1 ∧ p.2.2.1 = x.2.2.1 ∧ p.2.2.2 = x.2.2.2 := by
  have hB : (ew_B x P).Perm (ew_B x Q) := hp.filter _
  constructor
  · intro h
    rw [h] at hB
    refine ⟨hB.length_eq.symm, ?_⟩
    have m := ew_B_m.mp (hB.mem_iff.mp List.mem_cons_self)
    exact ⟨x, m.1, m.2, rfl, rfl, rfl⟩
  · rintro ⟨h1, p, m, b, e1, e2, e3⟩
    have hl : (ew_B x P).length = 1 := hB.length_eq.trans h1
    obtain ⟨y, hy⟩ := List.length_eq_one_iff.mp hl
    have hpy : p ∈ ew_B x P := ew_B_m.mpr ⟨hp.mem_iff.mpr m, b⟩
    rw [hy] at hpy ⊢
    have : p = y := List.mem_singleton.mp hpy
    subst this
    have : p = x := Prod.ext b.1 (Prod.ext e1 (Prod.ext e2 e3))
    rw [this]
end
