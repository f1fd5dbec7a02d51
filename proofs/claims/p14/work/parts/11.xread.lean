/-! X: what reads alone -/
section
theorem ew_10 : ¬ (1 : Int32) = 0 := by decide
def ew_ev (g n : Nat) (e : Nat → ew_E) (ak aT av : Nat → Int32) : Prop := 0 < g ∧ g ≤ 1000 ∧ n ≤ 32 ∧ ew_aE n e ak aT av ∧ ∀ i, i < n → (e i).1 ≤ 7 ∧ (e i).2.1 ≤ 1000000
variable {g n m i j q x : Nat} {l w D c : Int32} {ak aT av pk ps pe pv r1 r2 r3 r4 r5 : Nat → Int32} {e : Nat → ew_E}
theorem xa_open (H : ew_ev g n e ak aT av) (hi : i < n) {post : Int32 → Prop} (h1 : ew_op g e i → post 1) (h0 : ¬ ew_op g e i → post 0) : wpX_opensSession post (nI g, l, w, D, nI n, nI m, c, ak, aT, av, pk, ps, pe, pv, r1, r2, r3, r4, r5) (nI i) := by
  obtain ⟨hg, hg2, hn, hE, hb⟩ := H
  by_cases c : i = 0
  · subst c
    exact br_t nI_0 (h1 (Or.inl rfl))
  · have hc : ¬ nI i = 0 := nI_ne0 (by omega) (by omega)
    have e1 : nI i - 1 = nI (i - 1) := by
      obtain ⟨j, rfl⟩ : ∃ j, i = j + 1 := ⟨i - 1, by omega⟩
      exact nI_pred j
    have v1 : vp_in (nI i) 32 := vp_in_nI (by omega) (by omega)
    have v2 : vp_in (nI i - 1) 32 := by
      rw [e1]
      exact vp_in_nI (by omega) (by omega)
    have c1 : (nI i).toNatClampNeg = i := nI_clamp (by omega)
    have c2 : (nI i - 1).toNatClampNeg = i - 1 := by
      rw [e1]
      exact nI_clamp (by omega)
    obtain ⟨k1, t1, _⟩ := hE i hi
    obtain ⟨k2, t2, _⟩ := hE (i - 1) (by omega)
    have b1 := hb i hi
    have b2 := hb (i - 1) (by omega)
    refine br_f hc ⟨v1, v2, ?_⟩
    rw [c1, c2, k1, k2, t1, t2]
    refine ek_if (nI_eq (by omega) (by omega)) (fun hk => ⟨v1, v2, ?_⟩) (fun hk => h1 (Or.inr (Or.inl hk)))
    have hlt : (nI (e i).2.1 - nI (e (i - 1)).2.1 < nI g) ↔ (e i).2.1 < (e (i - 1)).2.1 + g := by
      rw [Int32.lt_iff_toInt_lt, pk_sub_toInt (by omega) (by omega), nI_toInt (by omega)]
      omega
    refine ek_if hlt (fun z => h0 ?_) (fun z => h1 (Or.inr (Or.inr (by omega))))
    unfold ew_op
    omega
theorem xa_past0 (H : ew_ev g n e ak aT av) (hb : ew_blk g e n i q) {post : Int32 → Prop} (hp : post (nI q)) : ∀ d x, x + d = q → i < x → wX_pastSession_4 post (nI g) l w D (nI n) (nI m) c ak aT av pk ps pe pv r1 r2 r3 r4 r5 (d + 1) (nI x) := by
  have hn := H.2.2.1
  have hq := hb.2.1
  intro d
  induction d with
  | zero =>
    intro x hx hi
    have hx' : x = q := by omega
    subst hx'
    by_cases c : x < n
    · exact br_f (nI_ge c (by omega)) (xa_open H c (fun _ => br_f ew_10 hp) (fun z => absurd (hb.2.2.2 c) z))
    · exact br_t (nI_le (by omega) (by omega)) hp
  | succ d ih =>
    intro x hx hi
    exact br_f (nI_ge (by omega) (by omega)) (xa_open H (by omega) (fun z => absurd z (hb.2.2.1 x hi (by omega))) (fun _ => br_t rfl (nm_r (nI_1 x) (ih (x + 1) (by omega) (by omega)))))
theorem xa_past (H : ew_ev g n e ak aT av) (hb : ew_blk g e n i q) {post : Int32 → Prop} (hp : post (nI q)) : wpX_pastSession post (nI g, l, w, D, nI n, nI m, c, ak, aT, av, pk, ps, pe, pv, r1, r2, r3, r4, r5) (nI i) := by
  have := hb.1
  exact nm_r (nI_1 i) ⟨q - (i + 1) + 1, xa_past0 H hb hp (q - (i + 1)) (i + 1) (by omega) (by omega)⟩
theorem ew_q1 {q : Nat} (h : 0 < q) : nI q - 1 = nI (q - 1) := by
  obtain ⟨j, rfl⟩ : ∃ j, q = j + 1 := ⟨q - 1, by omega⟩
  exact nI_pred j
theorem xa_end (H : ew_ev g n e ak aT av) (hb : ew_blk g e n i q) {post : Int32 → Prop} (hp : post (nI ((e (q - 1)).2.1 + g))) : wpX_endOfSession post (nI g, l, w, D, nI n, nI m, c, ak, aT, av, pk, ps, pe, pv, r1, r2, r3, r4, r5) (nI i) := by
  have h1 := hb.1
  have h2 := hb.2.1
  have h3 := H.2.2.1
  have e1 := ew_q1 (show 0 < q by omega)
  refine xa_past H hb ⟨?_, ?_⟩
  · rw [e1]
    exact vp_in_nI (by omega) (by omega)
  · rw [e1, nI_clamp (by omega), (H.2.2.2.1 (q - 1) (by omega)).2.1, nI_add]
    exact hp
theorem xa_sum0 (H : ew_ev g n e ak aT av) (hq : q ≤ n) {post : Int32 → Prop} (hp : post (ew_su (ew_in i q) (fun j => (e j).2.2) q)) : ∀ d x, x + d = q → i ≤ x → wX_sumOfSession_11 post (nI q) (nI g) l w D (nI n) (nI m) c ak aT av pk ps pe pv r1 r2 r3 r4 r5 (d + 1) (ew_su (ew_in i q) (fun j => (e j).2.2) x) (nI x) := by
  have hn := H.2.2.1
  intro d
  induction d with
  | zero =>
    intro x hx hi
    have hx' : x = q := by omega
    subst hx'
    exact br_t (nI_le (by omega) (by omega)) hp
  | succ d ih =>
    intro x hx hi
    refine br_f (nI_ge (by omega) (by omega)) ⟨vp_in_nI (by omega) (by omega), nm_r (e' := ew_su (ew_in i q) (fun j => (e j).2.2) (x + 1)) ?_ (nm_r (nI_1 x) (ih (x + 1) (by omega) (by omega)))⟩
    rw [nI_clamp (by omega), (H.2.2.2.1 x (by omega)).2.2, ew_su, if_pos (ew_inI.mpr ⟨hi, by omega⟩)]
theorem xa_sum (H : ew_ev g n e ak aT av) (hb : ew_blk g e n i q) {post : Int32 → Prop} (hp : post (ew_su (ew_in i q) (fun j => (e j).2.2) q)) : wpX_sumOfSession post (nI g, l, w, D, nI n, nI m, c, ak, aT, av, pk, ps, pe, pv, r1, r2, r3, r4, r5) (nI i) := by
  have h1 := hb.1
  refine xa_past H hb ⟨q - i + 1, ?_⟩
  have := xa_sum0 (l := l) (w := w) (D := D) (m := m) (c := c) (pk := pk) (ps := ps) (pe := pe) (pv := pv) (r1 := r1) (r2 := r2) (r3 := r3) (r4 := r4) (r5 := r5) H hb.2.1 hp (q - i) i (by omega) (Nat.le_refl _)
  rw [ew_su_0 _ i (Nat.le_refl _)] at this
  exact this
theorem xa_first0 (H : ew_ev g n e ak aT av) {post : Int32 → Prop} (hx : x < n) (hp : ∀ i, i ≤ x → ew_op g e i → (∀ j, i < j → j ≤ x → ¬ ew_op g e j) → post (nI i)) : ∀ y, y ≤ x → (∀ j, y < j → j ≤ x → ¬ ew_op g e j) → wX_firstOfSession_2 post (nI g) l w D (nI n) (nI m) c ak aT av pk ps pe pv r1 r2 r3 r4 r5 (y + 1) (nI y) := by
  have hn := H.2.2.1
  intro y
  induction y with
  | zero =>
    intro h1 h2
    exact br_t (nI_le (b := 0) (Nat.le_refl 0) (by omega)) (hp 0 h1 (Or.inl rfl) h2)
  | succ y ih =>
    intro h1 h2
    refine br_f (nI_nle (by omega) (by omega)) (xa_open H (by omega) (fun ho => br_f ew_10 (hp (y + 1) h1 ho h2)) (fun ho => br_t rfl (nm_r (pk_m1 y) (ih (by omega) ?_))))
    intro j a b
    by_cases c : j = y + 1
    · subst c
      exact ho
    · exact h2 j (by omega) b
theorem xa_first (H : ew_ev g n e ak aT av) {post : Int32 → Prop} (hx : x < n) (hp : ∀ i, i ≤ x → ew_op g e i → (∀ j, i < j → j ≤ x → ¬ ew_op g e j) → post (nI i)) : wpX_firstOfSession post (nI g, l, w, D, nI n, nI m, c, ak, aT, av, pk, ps, pe, pv, r1, r2, r3, r4, r5) (nI x) :=
  ⟨x + 1, xa_first0 H hx hp x (Nat.le_refl _) (fun j a b => by omega)⟩
theorem xa_sc0 (H : ew_ev g n e ak aT av) {post : Int32 → Prop} (hp : post (nI (ew_xl g e n).length)) : ∀ d x, x + d = n → wX_sessionCount_4 post (nI g) l w D (nI n) (nI m) c ak aT av pk ps pe pv r1 r2 r3 r4 r5 (d + 1) (nI (ew_xl g e x).length) (nI x) := by
  have hn := H.2.2.1
  intro d
  induction d with
  | zero =>
    intro x hx
    have hx' : x = n := by omega
    subst hx'
    exact br_t (nI_le (by omega) (by omega)) hp
  | succ d ih =>
    intro x hx
    refine br_f (nI_ge (by omega) (by omega)) (xa_open H (by omega) (fun ho => br_f ew_10 (nm_r (e' := nI (ew_xl g e (x + 1)).length) ?_ (nm_r (nI_1 x) (ih (x + 1) (by omega))))) (fun ho => br_t rfl (nm_r (nI_1 x) ?_)))
    · rw [nI_1, ew_xl_y ho, List.length_append]
      rfl
    · have := ih (x + 1) (by omega)
      rw [ew_xl_n ho] at this
      exact this
theorem xa_sc (H : ew_ev g n e ak aT av) {post : Int32 → Prop} (hp : post (nI (ew_xl g e n).length)) : wpX_sessionCount post (nI g, l, w, D, nI n, nI m, c, ak, aT, av, pk, ps, pe, pv, r1, r2, r3, r4, r5) :=
  ⟨n + 1, xa_sc0 H hp n 0 (by omega)⟩
/-- the session at a place, or none -/
theorem xa_at0 (H : ew_ev g n e ak aT av) {post : Int32 → Prop} {z : Int32} (hp : ∀ i, i < n → ew_op g e i → z = nI (ew_xl g e i).length → post (nI i)) (hn0 : (∀ i, i < n → ew_op g e i → z ≠ nI (ew_xl g e i).length) → post (nI n)) :
    ∀ d x, x + d = n → (∀ i, i < x → ew_op g e i → z ≠ nI (ew_xl g e i).length) → wX_firstOfSessionAt_4 post z (nI g) l w D (nI n) (nI m) c ak aT av pk ps pe pv r1 r2 r3 r4 r5 (d + 1) (nI (ew_xl g e x).length) (nI x) := by
  have hn := H.2.2.1
  intro d
  induction d with
  | zero =>
    intro x hx hz
    have hx' : x = n := by omega
    subst hx'
    exact br_t (nI_le (by omega) (by omega)) (hn0 hz)
  | succ d ih =>
    intro x hx hz
    refine br_f (nI_ge (by omega) (by omega)) (xa_open H (by omega) (fun ho => br_f ew_10 (br_c (fun hq => hp x (by omega) ho hq.symm) (fun hq => nm_r (e' := nI (ew_xl g e (x + 1)).length) ?_ (nm_r (nI_1 x) (ih (x + 1) (by omega) ?_))))) (fun ho => br_t rfl (nm_r (nI_1 x) ?_)))
    · rw [nI_1, ew_xl_y ho, List.length_append]
      rfl
    · intro i a b
      by_cases f : i = x
      · subst f
        exact fun z => hq z.symm
      · exact hz i (by omega) b
    · have := ih (x + 1) (by omega) (fun i a b => by
        by_cases f : i = x
        · subst f
          exact absurd b ho
        · exact hz i (by omega) b)
      rw [ew_xl_n ho] at this
      exact this
theorem xa_at (H : ew_ev g n e ak aT av) {post : Int32 → Prop} {z : Int32} (hp : ∀ i, i < n → ew_op g e i → z = nI (ew_xl g e i).length → post (nI i)) (hn0 : (∀ i, i < n → ew_op g e i → z ≠ nI (ew_xl g e i).length) → post (nI n)) : wpX_firstOfSessionAt post (nI g, l, w, D, nI n, nI m, c, ak, aT, av, pk, ps, pe, pv, r1, r2, r3, r4, r5) z :=
  ⟨n + 1, xa_at0 H hp hn0 n 0 (by omega) (fun i a => by omega)⟩
end
