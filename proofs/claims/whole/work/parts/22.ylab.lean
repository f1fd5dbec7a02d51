/-! Y: relabelling -/
section
variable {g n m i j q x k r dd : Nat} {l w D c : Int32} {ek et ev la mk pk ps pe pv r1 r2 r3 r4 r5 : Nat → Int32} {e : Nat → ew_E} {lb lb0 : Nat → Nat}
theorem yb_41 (H : ew_ev g n e ek et ev) (hl : ∀ i, i < n → la i = nI (lb i)) (hb : ∀ i, i < n → lb i < n) (hi : i < n) (hj : j < n) (hd : dd ≤ 1000000) {post : SY → Prop} {J2 J12 : Int32 → (Nat → Int32) → (Nat → Int32) → (Nat → Int32) → (Nat → Int32) → (Nat → Int32) → (Nat → Int32) → (Nat → Int32) → (Nat → Int32) → (Nat → Int32) → (Nat → Int32) → (Nat → Int32) → (Nat → Int32) → (Nat → Int32) → (Nat → Int32) → Prop}
    (h0 : ¬ ((e i).1 = (e j).1 ∧ dd < g ∧ lb j < lb i) → J12 (nI (j + 1)) ek et ev la mk pk ps pe pv r1 r2 r3 r4 r5) (h1 : (e i).1 = (e j).1 → dd < g → lb j < lb i → J12 (nI (j + 1)) ek et ev (upd la i (la j)) mk pk ps pe pv r1 r2 r3 r4 r5) : wY_relaxOnce_41 post J2 J12 (nI i) (nI j) (nI dd) (nI g) l w (nI n) D c (nI m) ek et ev la mk pk ps pe pv r1 r2 r3 r4 r5 := by
  obtain ⟨hg, hg2, hn, hE, hbd⟩ := id H
  have vi : vp_in (nI i) 32 := vp_in_nI (by omega) (by omega)
  have ci : (nI i).toNatClampNeg = i := nI_clamp (by omega)
  have vj : vp_in (nI j) 32 := vp_in_nI (by omega) (by omega)
  have cj : (nI j).toNatClampNeg = j := nI_clamp (by omega)
  have b1 := hbd i hi
  have b2 := hbd j hj
  have b3 := hb i hi
  have b4 := hb j hj
  refine ⟨vi, vj, ?_⟩
  rw [ci, cj, (hE i hi).1, (hE j hj).1]
  refine ek_if (nI_eq (by omega) (by omega)) (fun z1 => ek_if (nI_leI (by omega) (by omega)) (fun z2 => nm_r (nI_1 j) (h0 (fun z => by have := z.2.1; omega))) (fun z2 => ⟨vj, vi, ?_⟩)) (fun z1 => nm_r (nI_1 j) (h0 (fun z => z1 z.1)))
  have hle : la i ≤ la j ↔ lb i ≤ lb j := by
    rw [hl i hi, hl j hj]
    exact nI_leI (by omega) (by omega)
  exact ek_if hle (fun z3 => nm_r (nI_1 j) (h0 (fun z => by have := z.2.2; omega))) (fun z3 => ⟨vj, vi, nm_e (nm_r (nI_1 j) (h1 z1 (by omega) (by omega)))⟩)
theorem yb_in0 (H : ew_ev g n e ek et ev) (hi : i < n) {post : SY → Prop} {J2 : Int32 → (Nat → Int32) → (Nat → Int32) → (Nat → Int32) → (Nat → Int32) → (Nat → Int32) → (Nat → Int32) → (Nat → Int32) → (Nat → Int32) → (Nat → Int32) → (Nat → Int32) → (Nat → Int32) → (Nat → Int32) → (Nat → Int32) → (Nat → Int32) → Prop}
    (K : ∀ la lb, (∀ i, i < n → la i = nI (lb i)) → ew_i1 g e n lb → (∀ x, x < n → lb x ≤ lb0 x) → (∀ i' j', i' < i + 1 → j' < n → ew_lnk g e i' j' → lb i' ≤ lb0 j') → J2 (nI (i + 1)) ek et ev la mk pk ps pe pv r1 r2 r3 r4 r5) :
    ∀ d j la lb, j + d = n → (∀ i, i < n → la i = nI (lb i)) → ew_i1 g e n lb → (∀ x, x < n → lb x ≤ lb0 x) → (∀ i' j', i' < i → j' < n → ew_lnk g e i' j' → lb i' ≤ lb0 j') → (∀ j', j' < j → ew_lnk g e i j' → lb i ≤ lb0 j') → wY_relaxOnce_12 post J2 (nI i) (nI g) l w (nI n) D c (nI m) (d + 1) (nI j) ek et ev la mk pk ps pe pv r1 r2 r3 r4 r5 := by
  obtain ⟨hg, hg2, hn, hE, hbd⟩ := id H
  intro d
  induction d with
  | zero =>
    intro j la lb hj h1 h2 h3 h4 h5
    refine br_t (nI_le (by omega) (by omega)) (nm_r (nI_1 i) (K la lb h1 h2 h3 (fun i' j' a b z => ?_)))
    by_cases f : i' = i
    · rw [f] at z ⊢
      exact h5 j' (by omega) z
    · exact h4 i' j' (by omega) b z
  | succ d ih =>
    intro j la lb hj h1 h2 h3 h4 h5
    have hj1 : j < n := by omega
    have vi : vp_in (nI i) 32 := vp_in_nI (by omega) (by omega)
    have ci : (nI i).toNatClampNeg = i := nI_clamp (by omega)
    have vj : vp_in (nI j) 32 := vp_in_nI (by omega) (by omega)
    have cj : (nI j).toNatClampNeg = j := nI_clamp (by omega)
    have b1 := hbd i hi
    have b2 := hbd j hj1
    have step : ∀ dd, dd ≤ 1000000 → (dd < g ↔ ((e i).2.1 < (e j).2.1 + g ∧ (e j).2.1 < (e i).2.1 + g)) → wY_relaxOnce_41 post J2 (wY_relaxOnce_12 post J2 (nI i) (nI g) l w (nI n) D c (nI m) (d + 1)) (nI i) (nI j) (nI dd) (nI g) l w (nI n) D c (nI m) ek et ev la mk pk ps pe pv r1 r2 r3 r4 r5 := by
      intro dd hdd hiff
      refine yb_41 H h1 (fun i hi => (h2 i hi).1) hi hj1 hdd (fun z => ih (j + 1) la lb (by omega) h1 h2 h3 h4 (fun j' a b => ?_)) (fun z1 z2 z3 => ih (j + 1) _ (fun x => if x = i then lb j else lb x) (by omega) (fun x hx => ?_) (fun x hx => ?_) (fun x hx => ?_) (fun i' j' a b z => ?_) (fun j' a b => ?_))
      · by_cases f : j' = j
        · rw [f] at b ⊢
          have h6 := h3 j hj1
          have h7 : ¬ lb j < lb i := fun y => z ⟨b.1, hiff.mpr b.2, y⟩
          omega
        · exact h5 j' (by omega) b
      · skip
        by_cases f : x = i
        · rw [f, pk_us, if_pos rfl]
          exact h1 j hj1
        · rw [pk_un f, if_neg f]
          exact h1 x hx
      · dsimp only
        by_cases f : x = i
        · rw [f, if_pos rfl]
          exact ⟨(h2 j hj1).1, ew_si_t (ew_lnk_si hi hj1 ⟨z1, hiff.mp z2⟩) (h2 j hj1).2⟩
        · rw [if_neg f]
          exact h2 x hx
      · skip
        by_cases f : x = i
        · rw [f, if_pos rfl]
          have := h3 i hi
          omega
        · rw [if_neg f]
          exact h3 x hx
      · skip
        rw [if_neg (by omega)]
        exact h4 i' j' a b z
      · skip
        rw [if_pos rfl]
        by_cases f : j' = j
        · rw [f]
          exact h3 j hj1
        · have := h5 j' (by omega) b
          omega
    refine br_f (nI_ge (by omega) (by omega)) ⟨vi, vj, ?_⟩
    rw [ci, cj, (hE i hi).2.1, (hE j hj1).2.1]
    by_cases f : (e i).2.1 < (e j).2.1
    · exact nm_e (br_f (Int32.not_le.mpr (pk_sneg (by omega) f)) (nm_r (e' := nI ((e j).2.1 - (e i).2.1)) (by rw [Int32.neg_sub, pk_sub (by omega)]) (step _ (by omega) (by omega))))
    · exact nm_r (pk_sub (by omega)) (br_t (nI_pos' (by omega)) (step _ (by omega) (by omega)))
theorem yb_out0 (H : ew_ev g n e ek et ev) {post : SY → Prop} (K : ∀ la lb, (∀ i, i < n → la i = nI (lb i)) → ew_ps g e n lb0 lb → post (nI g, l, w, nI n, D, c, nI m, ek, et, ev, la, mk, pk, ps, pe, pv, r1, r2, r3, r4, r5)) :
    ∀ d i la lb, i + d = n → (∀ i, i < n → la i = nI (lb i)) → ew_i1 g e n lb → (∀ x, x < n → lb x ≤ lb0 x) → (∀ i' j', i' < i → j' < n → ew_lnk g e i' j' → lb i' ≤ lb0 j') → wY_relaxOnce_2 post (nI g) l w (nI n) D c (nI m) (d + 1) (nI i) ek et ev la mk pk ps pe pv r1 r2 r3 r4 r5 := by
  have hn := H.2.2.1
  intro d
  induction d with
  | zero =>
    intro i la lb hi h1 h2 h3 h4
    exact br_t (nI_le (by omega) (by omega)) (K la lb h1 ⟨h2, h3, fun i' j' a b z => h4 i' j' (by omega) b z⟩)
  | succ d ih =>
    intro i la lb hi h1 h2 h3 h4
    exact br_f (nI_ge (by omega) (by omega)) ⟨n + 1, yb_in0 (lb0 := lb0) H (by omega) (fun la lb g1 g2 g3 g4 => ih (i + 1) la lb (by omega) g1 g2 g3 g4) n 0 la lb (by omega) h1 h2 h3 h4 (fun j' a => by omega)⟩
theorem yb_relax (H : ew_ev g n e ek et ev) {post : SY → Prop} (h1 : ∀ i, i < n → la i = nI (lb0 i)) (h2 : ew_i1 g e n lb0) (K : ∀ la lb, (∀ i, i < n → la i = nI (lb i)) → ew_ps g e n lb0 lb → post (nI g, l, w, nI n, D, c, nI m, ek, et, ev, la, mk, pk, ps, pe, pv, r1, r2, r3, r4, r5)) : wpY_relaxOnce post (nI g, l, w, nI n, D, c, nI m, ek, et, ev, la, mk, pk, ps, pe, pv, r1, r2, r3, r4, r5) :=
  ⟨n + 1, yb_out0 H K n 0 la lb0 (by omega) h1 h2 (fun x _ => Nat.le_refl _) (fun i' j' a => by omega)⟩
theorem yb_rel1 (H : ew_ev g n e ek et ev) {post : SY → Prop} (K : ∀ la lb, (∀ i, i < n → la i = nI (lb i)) → ew_lab g e n lb → post (nI g, l, w, nI n, D, c, nI m, ek, et, ev, la, mk, pk, ps, pe, pv, r1, r2, r3, r4, r5)) :
    ∀ d p la lb, p + d = n + 1 → (∀ i, i < n → la i = nI (lb i)) → ew_Q g e n p lb → wY_relabel_25 post (d + 1) (nI p) (nI g) l w (nI n) D c (nI m) ek et ev la mk pk ps pe pv r1 r2 r3 r4 r5 := by
  have hn := H.2.2.1
  intro d
  induction d with
  | zero =>
    intro p la lb hp h1 h2
    exact br_t (nI_lt (by omega) (by omega)) (K la lb h1 (ew_Qe h2 (by omega)))
  | succ d ih =>
    intro p la lb hp h1 h2
    exact br_f (nI_nlt (by omega) (by omega)) (yb_relax H h1 h2.1 (fun la lb g1 g2 => nm_r (nI_1 p) (ih (p + 1) la lb (by omega) g1 (ew_Qs H.1 h2 g2))))
theorem yb_rel0 (H : ew_ev g n e ek et ev) {post : SY → Prop} (K : ∀ la lb, (∀ i, i < n → la i = nI (lb i)) → ew_lab g e n lb → post (nI g, l, w, nI n, D, c, nI m, ek, et, ev, la, mk, pk, ps, pe, pv, r1, r2, r3, r4, r5)) :
    ∀ d x la, x + d = n → (∀ i, i < x → la i = nI i) → wY_relabel_2 post (nI g) l w (nI n) D c (nI m) (d + 1) (nI x) ek et ev la mk pk ps pe pv r1 r2 r3 r4 r5 := by
  have hn := H.2.2.1
  intro d
  induction d with
  | zero =>
    intro x la hx h1
    exact br_t (nI_le (by omega) (by omega)) ⟨n + 1 + 1, yb_rel1 H K (n + 1) 0 la (fun i => i) (by omega) (fun i hi => h1 i (by omega)) (ew_Q0 (fun i _ => rfl))⟩
  | succ d ih =>
    intro x la hx h1
    refine br_f (nI_ge (by omega) (by omega)) ⟨vp_in_nI (by omega) (by omega), nm_r (e' := upd la x (nI x)) (by rw [nI_clamp (by omega)]) (nm_r (nI_1 x) (ih (x + 1) _ (by omega) (fun i hi => ?_)))⟩
    by_cases f : i = x
    · rw [f, pk_us]
    · rw [pk_un f]
      exact h1 i (by omega)
theorem yb_rel (H : ew_ev g n e ek et ev) {post : SY → Prop} (K : ∀ la lb, (∀ i, i < n → la i = nI (lb i)) → ew_lab g e n lb → post (nI g, l, w, nI n, D, c, nI m, ek, et, ev, la, mk, pk, ps, pe, pv, r1, r2, r3, r4, r5)) : wpY_relabel post (nI g, l, w, nI n, D, c, nI m, ek, et, ev, la, mk, pk, ps, pe, pv, r1, r2, r3, r4, r5) :=
  ⟨n + 1, yb_rel0 H K n 0 la (by omega) (fun i a => by omega)⟩
end
