/-! X: panes and records -/
section
def ew_xb (y : ew_P) : Prop := y.1 ≤ 7 ∧ y.2.1 ≤ 1001000 ∧ y.2.2.1 ≤ 1001000
def ew_at (j : Nat) (y : ew_P) (pk ps pe pv : Nat → Int32) : Prop := pk j = nI y.1 ∧ ps j = nI y.2.1 ∧ pe j = nI y.2.2.1 ∧ pv j = y.2.2.2
theorem ew_at_s {k : Nat} {y : ew_P} {pk ps pe pv : Nat → Int32} {a b d f : Int32} (h1 : a = nI y.1) (h2 : b = nI y.2.1) (h3 : d = nI y.2.2.1) (h4 : f = y.2.2.2) : ew_at k y (upd pk k a) (upd ps k b) (upd pe k d) (upd pv k f) :=
  ⟨pk_us.trans h1, pk_us.trans h2, pk_us.trans h3, pk_us.trans h4⟩
theorem ew_at_n {j k : Nat} {y : ew_P} {pk ps pe pv : Nat → Int32} {a b d f : Int32} (hj : j ≠ k) (h : ew_at j y pk ps pe pv) : ew_at j y (upd pk k a) (upd ps k b) (upd pe k d) (upd pv k f) :=
  ⟨(pk_un hj).trans h.1, (pk_un hj).trans h.2.1, (pk_un hj).trans h.2.2.1, (pk_un hj).trans h.2.2.2⟩
variable {g n m i j q x k : Nat} {l w D c : Int32} {ak aT av pk ps pe pv r1 r2 r3 r4 r5 : Nat → Int32} {p : Nat → ew_P} {s y : ew_P} {R : ew_R}
theorem xp_bel (hi : i < 32) (h : ew_at i y pk ps pe pv) (hy : ew_xb y) (hs : ew_xb s) {post : Int32 → Prop} (h1 : ew_bl s y → post 1) (h0 : ¬ ew_bl s y → post 0) : wpX_paneBelongs post (nI g, l, w, D, nI n, nI m, c, ak, aT, av, pk, ps, pe, pv, r1, r2, r3, r4, r5) (nI i) (nI s.1) (nI s.2.1) (nI s.2.2.1) := by
  have v1 : vp_in (nI i) 32 := vp_in_nI hi (by omega)
  have c1 : (nI i).toNatClampNeg = i := nI_clamp (by omega)
  obtain ⟨a1, a2, a3, _⟩ := h
  obtain ⟨b1, b2, b3⟩ := hy
  obtain ⟨d1, d2, d3⟩ := hs
  refine ⟨v1, ?_⟩
  rw [c1, a1, a2, a3]
  refine ek_if (nI_eq (by omega) (by omega)) (fun z1 => ⟨v1, ek_if (nI_ltI (by omega) (by omega)) (fun z2 => h0 (fun z => ?_)) (fun z2 => ⟨v1, ek_if (nI_ltI (by omega) (by omega)) (fun z3 => h0 (fun z => ?_)) (fun z3 => h1 ⟨z1, by omega, by omega⟩)⟩)⟩) (fun z1 => h0 (fun z => z1 z.1))
  · have := z.2.1
    omega
  · have := z.2.2
    omega
theorem xp_aft (hi : i < 32) (h : ew_at i y pk ps pe pv) (hy : ew_xb y) (hs : ew_xb s) {post : Int32 → Prop} (h1 : ew_pl s y → post 1) (h0 : ¬ ew_pl s y → post 0) : wpX_paneComesAfter post (nI g, l, w, D, nI n, nI m, c, ak, aT, av, pk, ps, pe, pv, r1, r2, r3, r4, r5) (nI i) (nI s.1) (nI s.2.1) := by
  have v1 : vp_in (nI i) 32 := vp_in_nI hi (by omega)
  have c1 : (nI i).toNatClampNeg = i := nI_clamp (by omega)
  obtain ⟨a1, a2, a3, _⟩ := h
  obtain ⟨b1, b2, b3⟩ := hy
  obtain ⟨d1, d2, d3⟩ := hs
  have e1 : ew_pl s y ↔ (s.1 < y.1 ∨ (s.1 = y.1 ∧ s.2.1 < y.2.1)) := Iff.rfl
  refine ⟨v1, ?_⟩
  rw [c1, a1, a2]
  refine ek_if (nI_ltI (by omega) (by omega)) (fun z1 => h1 (e1.mpr (by omega))) (fun z1 => ⟨v1, ek_if (nI_eq (by omega) (by omega)) (fun z2 => ⟨v1, ek_if (nI_leI (by omega) (by omega)) (fun z3 => h0 (fun z => ?_)) (fun z3 => h1 (e1.mpr (by omega)))⟩) (fun z2 => h0 (fun z => ?_))⟩)
  · have := e1.mp z
    omega
  · have := e1.mp z
    omega
theorem xp_emit {kd a b d f : Int32} {post : St2 → Prop} (h : post (nI g, l, w, D, nI n, nI m, (ew_em R kd a b d f).2.2.2.2.2, ak, aT, av, pk, ps, pe, pv, (ew_em R kd a b d f).1, (ew_em R kd a b d f).2.1, (ew_em R kd a b d f).2.2.1, (ew_em R kd a b d f).2.2.2.1, (ew_em R kd a b d f).2.2.2.2.1)) : wpX_emit post (nI g, l, w, D, nI n, nI m, R.2.2.2.2.2, ak, aT, av, pk, ps, pe, pv, R.1, R.2.1, R.2.2.1, R.2.2.2.1, R.2.2.2.2.1) kd a b d f := by
  have v : vp_in (R.2.2.2.2.2 &&& 63) 64 := pk_andIn _ 6 (by decide) (by decide)
  exact nm_e ⟨v, nm_e ⟨v, nm_e ⟨v, nm_e ⟨v, nm_e ⟨v, nm_e (nm_e h)⟩⟩⟩⟩⟩
theorem xp_move (hi : i < 32) (hj : j < 32) {post : St2 → Prop} (h : post (nI g, l, w, D, nI n, nI m, c, ak, aT, av, upd pk j (pk i), upd ps j (ps i), upd pe j (pe i), upd pv j (pv i), r1, r2, r3, r4, r5)) : wpX_movePane post (nI g, l, w, D, nI n, nI m, c, ak, aT, av, pk, ps, pe, pv, r1, r2, r3, r4, r5) (nI i) (nI j) := by
  have vi : vp_in (nI i) 32 := vp_in_nI hi (by omega)
  have vj : vp_in (nI j) 32 := vp_in_nI hj (by omega)
  have ci : (nI i).toNatClampNeg = i := nI_clamp (by omega)
  have cj : (nI j).toNatClampNeg = j := nI_clamp (by omega)
  exact ⟨vi, vj, nm_r (e' := upd pk j (pk i)) (by rw [ci, cj]) ⟨vi, vj, nm_r (e' := upd ps j (ps i)) (by rw [ci, cj]) ⟨vi, vj, nm_r (e' := upd pe j (pe i)) (by rw [ci, cj]) ⟨vi, vj, nm_r (e' := upd pv j (pv i)) (by rw [ci, cj]) h⟩⟩⟩⟩
/-- the arrays hold the panes p -/
def ew_pa (m : Nat) (p : Nat → ew_P) (pk ps pe pv : Nat → Int32) : Prop := m ≤ 32 ∧ ∀ i, i < m → ew_at i (p i) pk ps pe pv ∧ ew_xb (p i)
theorem xp_rem0 (hm : m ≤ 32) (hp : ∀ i, i < m → ew_xb (p i)) (hs : ew_xb s) {post : St2 → Prop}
    (K : ∀ k pk ps pe pv q, ew_pa k q pk ps pe pv → ew_L q k = ew_N s (ew_L p m) → post (nI g, l, w, D, nI n, nI k, c, ak, aT, av, pk, ps, pe, pv, r1, r2, r3, r4, r5)) :
    ∀ d x k pk ps pe pv q, x + d = m → k ≤ x → ew_pa k q pk ps pe pv → (∀ j, x ≤ j → j < m → ew_at j (p j) pk ps pe pv) → ew_L q k = ew_N s (ew_L p x) → wX_removePanes_6 post (nI s.1) (nI s.2.1) (nI s.2.2.1) (d + 1) (nI k) (nI x) (nI g) l w D (nI n) (nI m) c ak aT av pk ps pe pv r1 r2 r3 r4 r5 := by
  intro d
  induction d with
  | zero =>
    intro x k pk ps pe pv q hx hk h1 h2 h3
    have hx' : x = m := by omega
    subst hx'
    exact br_t (nI_le (by omega) (by omega)) (K k pk ps pe pv q h1 h3)
  | succ d ih =>
    intro x k pk ps pe pv q hx hk h1 h2 h3
    have hx1 : x < m := by omega
    have ax := h2 x (Nat.le_refl _) hx1
    refine br_f (nI_ge (by omega) (by omega)) (xp_bel (by omega) ax (hp x hx1) hs (fun hb => br_f ew_10 (nm_r (nI_1 x) (ih (x + 1) k pk ps pe pv q (by omega) (by omega) h1 (fun j a b => h2 j (by omega) b) ?_))) (fun hb => br_t rfl (xp_move (by omega) (by omega) (nm_r (nI_1 k) (nm_r (nI_1 x) (ih (x + 1) (k + 1) _ _ _ _ (fun j => if j = k then p x else q j) (by omega) (by omega) ⟨by omega, fun j hj => ?_⟩ (fun j a b => ?_) ?_))))))
    · exact ew_cpn (P := fun y => ew_dc (¬ ew_bl s y)) h3 (fun z => (ew_dcI.mp z) hb)
    · dsimp only
      by_cases c : j = k
      · rw [if_pos c, c]
        exact ⟨ew_at_s ax.1 ax.2.1 ax.2.2.1 ax.2.2.2, hp x hx1⟩
      · rw [if_neg c]
        exact ⟨ew_at_n c (h1.2 j (by omega)).1, (h1.2 j (by omega)).2⟩
    · exact ew_at_n (by omega) (h2 j (by omega) b)
    · exact ew_cpy (P := fun y => ew_dc (¬ ew_bl s y)) h3 (ew_dcI.mpr hb)
theorem xp_rem (H : ew_pa m p pk ps pe pv) (hs : ew_xb s) {post : St2 → Prop}
    (K : ∀ k pk ps pe pv q, ew_pa k q pk ps pe pv → ew_L q k = ew_N s (ew_L p m) → post (nI g, l, w, D, nI n, nI k, c, ak, aT, av, pk, ps, pe, pv, r1, r2, r3, r4, r5)) : wpX_removePanes post (nI g, l, w, D, nI n, nI m, c, ak, aT, av, pk, ps, pe, pv, r1, r2, r3, r4, r5) (nI s.1) (nI s.2.1) (nI s.2.2.1) :=
  ⟨m + 1, xp_rem0 H.1 (fun i hi => (H.2 i hi).2) hs K m 0 0 pk ps pe pv p (by omega) (Nat.le_refl _) ⟨by omega, fun j hj => absurd hj (Nat.not_lt_zero j)⟩ (fun j _ hj => (H.2 j hj).1) rfl⟩
theorem xp_ret0 (H : ew_pa m p pk ps pe pv) (hs : ew_xb s) {post : St2 → Prop}
    (K : ∀ k pk ps pe pv q, ew_pa k q pk ps pe pv → ew_L q k = ew_N s (ew_L p m) → post (nI g, l, w, D, nI n, nI k, ((ew_B s (ew_L p m)).foldl ew_rt R).2.2.2.2.2, ak, aT, av, pk, ps, pe, pv, ((ew_B s (ew_L p m)).foldl ew_rt R).1, ((ew_B s (ew_L p m)).foldl ew_rt R).2.1, ((ew_B s (ew_L p m)).foldl ew_rt R).2.2.1, ((ew_B s (ew_L p m)).foldl ew_rt R).2.2.2.1, ((ew_B s (ew_L p m)).foldl ew_rt R).2.2.2.2.1)) :
    ∀ d x, x + d = m → wX_retractPanes_3 post (nI s.1) (nI s.2.1) (nI s.2.2.1) (d + 1) (nI x) (nI g) l w D (nI n) (nI m) ((ew_B s (ew_L p x)).foldl ew_rt R).2.2.2.2.2 ak aT av pk ps pe pv ((ew_B s (ew_L p x)).foldl ew_rt R).1 ((ew_B s (ew_L p x)).foldl ew_rt R).2.1 ((ew_B s (ew_L p x)).foldl ew_rt R).2.2.1 ((ew_B s (ew_L p x)).foldl ew_rt R).2.2.2.1 ((ew_B s (ew_L p x)).foldl ew_rt R).2.2.2.2.1 := by
  have hm := H.1
  intro d
  induction d with
  | zero =>
    intro x hx
    have hx' : x = m := by omega
    subst hx'
    exact br_t (nI_le (by omega) (by omega)) (xp_rem H hs K)
  | succ d ih =>
    intro x hx
    have hx1 : x < m := by omega
    have ax := (H.2 x hx1).1
    have v1 : vp_in (nI x) 32 := vp_in_nI (by omega) (by omega)
    have c1 : (nI x).toNatClampNeg = x := nI_clamp (by omega)
    have := ih (x + 1) (by omega)
    refine br_f (nI_ge (by omega) (by omega)) (xp_bel (by omega) ax (H.2 x hx1).2 hs (fun hb => br_f ew_10 ⟨v1, v1, v1, v1, ?_⟩) (fun hb => br_t rfl (nm_r (nI_1 x) ?_)))
    · have e1 : ew_B s (ew_L p (x + 1)) = ew_B s (ew_L p x) ++ [p x] := by
        unfold ew_B
        rw [ew_Ls, List.filter_append, List.filter_cons_of_pos (p := fun y => ew_dc (ew_bl s y)) (ew_dcI.mpr hb)]
        rfl
      rw [c1, ax.1, ax.2.1, ax.2.2.1, ax.2.2.2]
      refine xp_emit (nm_r (nI_1 x) ?_)
      rw [e1, List.foldl_append] at this
      exact this
    · have e1 : ew_B s (ew_L p (x + 1)) = ew_B s (ew_L p x) := by
        unfold ew_B
        rw [ew_Ls, List.filter_append, List.filter_cons_of_neg (p := fun y => ew_dc (ew_bl s y)) (fun z => hb (ew_dcI.mp z))]
        exact List.append_nil _
      rw [e1] at this
      exact this
theorem xp_ret (H : ew_pa m p pk ps pe pv) (hs : ew_xb s) {post : St2 → Prop}
    (K : ∀ k pk ps pe pv q, ew_pa k q pk ps pe pv → ew_L q k = ew_N s (ew_L p m) → post (nI g, l, w, D, nI n, nI k, ((ew_B s (ew_L p m)).foldl ew_rt R).2.2.2.2.2, ak, aT, av, pk, ps, pe, pv, ((ew_B s (ew_L p m)).foldl ew_rt R).1, ((ew_B s (ew_L p m)).foldl ew_rt R).2.1, ((ew_B s (ew_L p m)).foldl ew_rt R).2.2.1, ((ew_B s (ew_L p m)).foldl ew_rt R).2.2.2.1, ((ew_B s (ew_L p m)).foldl ew_rt R).2.2.2.2.1)) : wpX_retractPanes post (nI g, l, w, D, nI n, nI m, R.2.2.2.2.2, ak, aT, av, pk, ps, pe, pv, R.1, R.2.1, R.2.2.1, R.2.2.2.1, R.2.2.2.2.1) (nI s.1) (nI s.2.1) (nI s.2.2.1) :=
  ⟨m + 1, xp_ret0 H hs K m 0 (by omega)⟩
theorem xp_syn0 (H : ew_pa m p pk ps pe pv) (hs : ew_xb s) {post : Int32 → Prop} (h1 : ew_B s (ew_L p m) = [s] → post 1) (h0 : ¬ ew_B s (ew_L p m) = [s] → post 0) :
    ∀ d x, x + d = m → wX_isInSync_9 post (nI s.1) (nI s.2.1) (nI s.2.2.1) s.2.2.2 (nI g) l w D (nI n) (nI m) c ak aT av pk ps pe pv r1 r2 r3 r4 r5 (d + 1) (nI (ew_ct (fun i => ew_dc (ew_bl s (p i))) x)) (nI (ew_ct (fun i => ew_dc (ew_mt s (p i))) x)) (nI x) := by
  have hm := H.1
  intro d
  induction d with
  | zero =>
    intro x hx
    have hx' : x = m := by omega
    subst hx'
    have b1 := ew_ct_le (fun i => ew_dc (ew_bl s (p i))) x
    have b2 := ew_ct_le (fun i => ew_dc (ew_mt s (p i))) x
    have sy := ew_syncX (x := s) (List.Perm.refl (ew_L p x))
    refine br_t (nI_le (by omega) (by omega)) (ek_if (nI_eq (b := 1) (by omega) (by omega)) (fun z1 => ek_if (nI_eq (b := 1) (by omega) (by omega)) (fun z2 => h1 (sy.mpr ⟨z1, z2⟩)) (fun z2 => h0 (fun z => z2 (sy.mp z).2))) (fun z1 => h0 (fun z => z1 (sy.mp z).1)))
  | succ d ih =>
    intro x hx
    have hx1 : x < m := by omega
    have ax := (H.2 x hx1).1
    have bx := (H.2 x hx1).2
    have v1 : vp_in (nI x) 32 := vp_in_nI (by omega) (by omega)
    have c1 : (nI x).toNatClampNeg = x := nI_clamp (by omega)
    have IH := ih (x + 1) (by omega)
    obtain ⟨q1, q2, q3⟩ := bx
    obtain ⟨s1, s2, s3⟩ := id hs
    have no : ¬ ew_mt s (p x) → ew_ct (fun i => ew_dc (ew_mt s (p i))) (x + 1) = ew_ct (fun i => ew_dc (ew_mt s (p i))) x := fun z => by
      rw [ew_ct, if_neg (fun y => z (ew_dcI.mp y))]
    refine br_f (nI_ge (by omega) (by omega)) (xp_bel (by omega) ax (H.2 x hx1).2 hs (fun hb => br_f ew_10 (nm_r (e' := nI (ew_ct (fun i => ew_dc (ew_bl s (p i))) (x + 1))) ?_ ⟨v1, ?_⟩)) (fun hb => br_t rfl (nm_r (nI_1 x) ?_)))
    · rw [nI_1, ew_ct, if_pos (ew_dcI.mpr hb)]
    · rw [c1, ax.2.1, ax.2.2.1, ax.2.2.2]
      refine ek_if (nI_eq (by omega) (by omega)) (fun z1 => ⟨v1, ek_if (nI_eq (by omega) (by omega)) (fun z2 => ⟨v1, br_c (fun z3 => nm_r (e' := nI (ew_ct (fun i => ew_dc (ew_mt s (p i))) (x + 1))) ?_ (nm_r (nI_1 x) IH)) (fun z3 => nm_r (nI_1 x) ?_)⟩) (fun z2 => nm_r (nI_1 x) ?_)⟩) (fun z1 => nm_r (nI_1 x) ?_)
      · rw [nI_1, ew_ct, if_pos (ew_dcI.mpr ⟨hb, z1, z2, z3⟩)]
      · rw [no (fun z => z3 z.2.2.2)] at IH
        exact IH
      · rw [no (fun z => z2 z.2.2.1)] at IH
        exact IH
      · rw [no (fun z => z1 z.2.1)] at IH
        exact IH
    · rw [no (fun z => hb z.1), ew_ct, if_neg (fun z => hb (ew_dcI.mp z))] at IH
      exact IH
theorem xp_syn (H : ew_pa m p pk ps pe pv) (hs : ew_xb s) {post : Int32 → Prop} (h1 : ew_B s (ew_L p m) = [s] → post 1) (h0 : ¬ ew_B s (ew_L p m) = [s] → post 0) : wpX_isInSync post (nI g, l, w, D, nI n, nI m, c, ak, aT, av, pk, ps, pe, pv, r1, r2, r3, r4, r5) (nI s.1) (nI s.2.1) (nI s.2.2.1) s.2.2.2 :=
  ⟨m + 1, xp_syn0 H hs h1 h0 m 0 (by omega)⟩
end
