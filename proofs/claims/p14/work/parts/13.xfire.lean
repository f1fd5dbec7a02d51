/-! X: addPane, insertEvent, fire -/
section
variable {g n m i j q x k b : Nat} {l w D c : Int32} {ak aT av pk ps pe pv r1 r2 r3 r4 r5 : Nat → Int32} {p : Nat → ew_P} {s y : ew_P} {R : ew_R} {e : Nat → ew_E}
theorem xp_add1 (hb : b ≤ m) (hm : m < 32) (hp : ∀ i, i < m → ew_xb (p i)) (hs : ew_xb s) {post : St2 → Prop}
    (K : ∀ pk ps pe pv q, ew_pa (m + 1) q pk ps pe pv → ew_L q (m + 1) = ew_L (ew_put p s b) (m + 1) → post (nI g, l, w, D, nI n, nI (m + 1), c, ak, aT, av, pk, ps, pe, pv, r1, r2, r3, r4, r5))
    (h1 : ∀ j, j < b → ew_at j (p j) pk ps pe pv) (h2 : ∀ j, b < j → j ≤ m → ew_at j (p (j - 1)) pk ps pe pv) : wX_addPane_50 post (nI s.1) (nI s.2.1) (nI s.2.2.1) s.2.2.2 (nI b) (nI g) l w D (nI n) (nI m) c ak aT av pk ps pe pv r1 r2 r3 r4 r5 := by
  have v1 : vp_in (nI b) 32 := vp_in_nI (by omega) (by omega)
  have c1 : (nI b).toNatClampNeg = b := nI_clamp (by omega)
  refine ⟨v1, nm_r (e' := upd pk b (nI s.1)) (by rw [c1]) ⟨v1, nm_r (e' := upd ps b (nI s.2.1)) (by rw [c1]) ⟨v1, nm_r (e' := upd pe b (nI s.2.2.1)) (by rw [c1]) ⟨v1, nm_r (e' := upd pv b s.2.2.2) (by rw [c1]) (nm_r (nI_1 m) (K _ _ _ _ (ew_put p s b) ⟨by omega, fun j hj => ?_⟩ rfl))⟩⟩⟩⟩
  by_cases a : j < b
  · rw [ew_put_a a]
    exact ⟨ew_at_n (by omega) (h1 j a), hp j (by omega)⟩
  · by_cases d : j = b
    · rw [d, ew_put_b]
      exact ⟨ew_at_s rfl rfl rfl rfl, hs⟩
    · rw [ew_put_c (show b < j by omega)]
      exact ⟨ew_at_n d (h2 j (by omega) (by omega)), hp (j - 1) (by omega)⟩
theorem xp_add0 (hm : m < 32) (hp : ∀ i, i < m → ew_xb (p i)) (hs : ew_xb s) {post : St2 → Prop}
    (K : ∀ b pk ps pe pv q, b ≤ m → (∀ j, b ≤ j → j < m → ew_pl s (p j)) → (b = 0 ∨ ¬ ew_pl s (p (b - 1))) → ew_pa (m + 1) q pk ps pe pv → ew_L q (m + 1) = ew_L (ew_put p s b) (m + 1) → post (nI g, l, w, D, nI n, nI (m + 1), c, ak, aT, av, pk, ps, pe, pv, r1, r2, r3, r4, r5)) :
    ∀ b pk ps pe pv, b ≤ m → (∀ j, b ≤ j → j < m → ew_pl s (p j)) → (∀ j, j < b → ew_at j (p j) pk ps pe pv) → (∀ j, b < j → j ≤ m → ew_at j (p (j - 1)) pk ps pe pv) → wX_addPane_16 post (nI s.1) (nI s.2.1) (nI s.2.2.1) s.2.2.2 (b + 1) (nI b) (nI g) l w D (nI n) (nI m) c ak aT av pk ps pe pv r1 r2 r3 r4 r5 := by
  intro b
  induction b with
  | zero =>
    intro pk ps pe pv hb hl h1 h2
    exact br_t (nI_le (b := 0) (Nat.le_refl 0) (by omega)) (xp_add1 hb hm hp hs (fun pk ps pe pv q a1 a2 => K 0 pk ps pe pv q hb hl (Or.inl rfl) a1 a2) h1 h2)
  | succ b ih =>
    intro pk ps pe pv hb hl h1 h2
    have e1 : nI (b + 1) - 1 = nI b := nI_pred b
    have a1 := h1 b (by omega)
    refine br_f (nI_nle (by omega) (by omega)) ?_
    rw [e1]
    refine xp_aft (by omega) a1 (hp b (by omega)) hs (fun z => br_f ew_10 (xp_move (by omega) (by omega) (nm_r (pk_m1 b) (ih _ _ _ _ (by omega) (fun j u v => ?_) (fun j u => ew_at_n (by omega) (h1 j (by omega))) (fun j u v => ?_))))) (fun z => br_t rfl (xp_add1 hb hm hp hs (fun pk ps pe pv q d1 d2 => K (b + 1) pk ps pe pv q hb hl (Or.inr z) d1 d2) h1 h2))
    · by_cases f : j = b
      · subst f
        exact z
      · exact hl j (by omega) v
    · by_cases f : j = b + 1
      · subst f
        exact ew_at_s a1.1 a1.2.1 a1.2.2.1 a1.2.2.2
      · exact ew_at_n f (h2 j (by omega) v)
theorem xp_add (H : ew_pa m p pk ps pe pv) (hs : ew_xb s) (hsr : (ew_L p m).Pairwise ew_pl) (hne : ∀ y, y ∈ ew_L p m → ew_pk y ≠ ew_pk s) {post : St2 → Prop}
    (K : ∀ k pk ps pe pv q, ew_pa k q pk ps pe pv → ew_L q k = (if (ew_L p m).length < 32 then ew_ins s (ew_L p m) else ew_L p m) → post (nI g, l, w, D, nI n, nI k, c, ak, aT, av, pk, ps, pe, pv, r1, r2, r3, r4, r5)) : wpX_addPane post (nI g, l, w, D, nI n, nI m, c, ak, aT, av, pk, ps, pe, pv, r1, r2, r3, r4, r5) (nI s.1) (nI s.2.1) (nI s.2.2.1) s.2.2.2 := by
  have hm := H.1
  rw [ew_Ll] at K
  refine ek_if (nI_ltI (b := 32) (by omega) (by omega)) (fun z => ⟨m + 1, ?_⟩) (fun z => ?_)
  · refine xp_add0 z (fun i hi => (H.2 i hi).2) hs (fun b pk ps pe pv q h1 h2 h3 h4 h5 => K (m + 1) pk ps pe pv q h4 ?_) m pk ps pe pv (Nat.le_refl _) (fun j u v => by omega) (fun j u => (H.2 j u).1) (fun j u v => by omega)
    rw [if_pos z, h5]
    exact ew_put_l hsr h1 h2 h3 hne
  · refine K m pk ps pe pv p H ?_
    rw [if_neg z]
def ew_ae (j : Nat) (y : ew_E) (ak aT av : Nat → Int32) : Prop := ak j = nI y.1 ∧ aT j = nI y.2.1 ∧ av j = y.2.2
theorem ew_ae_s {k : Nat} {y : ew_E} {ak aT av : Nat → Int32} {a b d : Int32} (h1 : a = nI y.1) (h2 : b = nI y.2.1) (h3 : d = y.2.2) : ew_ae k y (upd ak k a) (upd aT k b) (upd av k d) :=
  ⟨pk_us.trans h1, pk_us.trans h2, pk_us.trans h3⟩
theorem ew_ae_n {j k : Nat} {y : ew_E} {ak aT av : Nat → Int32} {a b d : Int32} (hj : j ≠ k) (h : ew_ae j y ak aT av) : ew_ae j y (upd ak k a) (upd aT k b) (upd av k d) :=
  ⟨(pk_un hj).trans h.1, (pk_un hj).trans h.2.1, (pk_un hj).trans h.2.2⟩
theorem xe_move (hi : i < 32) (hj : j < 32) {post : St2 → Prop} (h : post (nI g, l, w, D, nI n, nI m, c, upd ak j (ak i), upd aT j (aT i), upd av j (av i), pk, ps, pe, pv, r1, r2, r3, r4, r5)) : wpX_moveEvent post (nI g, l, w, D, nI n, nI m, c, ak, aT, av, pk, ps, pe, pv, r1, r2, r3, r4, r5) (nI i) (nI j) := by
  have vi : vp_in (nI i) 32 := vp_in_nI hi (by omega)
  have vj : vp_in (nI j) 32 := vp_in_nI hj (by omega)
  have ci : (nI i).toNatClampNeg = i := nI_clamp (by omega)
  have cj : (nI j).toNatClampNeg = j := nI_clamp (by omega)
  exact ⟨vi, vj, nm_r (e' := upd ak j (ak i)) (by rw [ci, cj]) ⟨vi, vj, nm_r (e' := upd aT j (aT i)) (by rw [ci, cj]) ⟨vi, vj, nm_r (e' := upd av j (av i)) (by rw [ci, cj]) h⟩⟩⟩
def ew_ela (s y : ew_E) : Prop := s.1 < y.1 ∨ (s.1 = y.1 ∧ s.2.1 < y.2.1)
def ew_eb (y : ew_E) : Prop := y.1 ≤ 7 ∧ y.2.1 ≤ 1000000
theorem xe_aft {s y : ew_E} (hi : i < 32) (h : ew_ae i y ak aT av) (hy : ew_eb y) (hs : ew_eb s) {post : Int32 → Prop} (h1 : ew_ela s y → post 1) (h0 : ¬ ew_ela s y → post 0) : wpX_eventComesAfter post (nI g, l, w, D, nI n, nI m, c, ak, aT, av, pk, ps, pe, pv, r1, r2, r3, r4, r5) (nI i) (nI s.1) (nI s.2.1) := by
  have v1 : vp_in (nI i) 32 := vp_in_nI hi (by omega)
  have c1 : (nI i).toNatClampNeg = i := nI_clamp (by omega)
  obtain ⟨a1, a2, _⟩ := h
  obtain ⟨b1, b2⟩ := hy
  obtain ⟨d1, d2⟩ := hs
  have e1 : ew_ela s y ↔ (s.1 < y.1 ∨ (s.1 = y.1 ∧ s.2.1 < y.2.1)) := Iff.rfl
  refine ⟨v1, ?_⟩
  rw [c1, a1, a2]
  refine ek_if (nI_ltI (by omega) (by omega)) (fun z1 => h1 (e1.mpr (by omega))) (fun z1 => ⟨v1, ek_if (nI_eq (by omega) (by omega)) (fun z2 => ⟨v1, ek_if (nI_leI (by omega) (by omega)) (fun z3 => h0 (fun z => ?_)) (fun z3 => h1 (e1.mpr (by omega)))⟩) (fun z2 => h0 (fun z => ?_))⟩)
  · have := e1.mp z
    omega
  · have := e1.mp z
    omega
theorem xe_ins1 {s : ew_E} (hb : b ≤ n) (hn : n < 32) {post : Int32 → St2 → Prop}
    (K : ∀ ak aT av, ew_aE (n + 1) (ew_put e s b) ak aT av → post (nI b) (nI g, l, w, D, nI (n + 1), nI m, c, ak, aT, av, pk, ps, pe, pv, r1, r2, r3, r4, r5))
    (h1 : ∀ j, j < b → ew_ae j (e j) ak aT av) (h2 : ∀ j, b < j → j ≤ n → ew_ae j (e (j - 1)) ak aT av) : wX_insertEvent_40 post (nI s.1) (nI s.2.1) s.2.2 (nI b) (nI g) l w D (nI n) (nI m) c ak aT av pk ps pe pv r1 r2 r3 r4 r5 := by
  have v1 : vp_in (nI b) 32 := vp_in_nI (by omega) (by omega)
  have c1 : (nI b).toNatClampNeg = b := nI_clamp (by omega)
  refine ⟨v1, nm_r (e' := upd ak b (nI s.1)) (by rw [c1]) ⟨v1, nm_r (e' := upd aT b (nI s.2.1)) (by rw [c1]) ⟨v1, nm_r (e' := upd av b s.2.2) (by rw [c1]) (nm_r (nI_1 n) (K _ _ _ (fun j hj => ?_)))⟩⟩⟩
  by_cases a : j < b
  · rw [ew_put_a a]
    exact ew_ae_n (by omega) (h1 j a)
  · by_cases d : j = b
    · rw [d, ew_put_b]
      exact ew_ae_s rfl rfl rfl
    · rw [ew_put_c (show b < j by omega)]
      exact ew_ae_n d (h2 j (by omega) (by omega))
theorem xe_ins0 {s : ew_E} (hn : n < 32) (hp : ∀ i, i < n → ew_eb (e i)) (hs : ew_eb s) {post : Int32 → St2 → Prop}
    (K : ∀ b ak aT av, b ≤ n → (∀ j, b ≤ j → j < n → ew_ela s (e j)) → (b = 0 ∨ ¬ ew_ela s (e (b - 1))) → ew_aE (n + 1) (ew_put e s b) ak aT av → post (nI b) (nI g, l, w, D, nI (n + 1), nI m, c, ak, aT, av, pk, ps, pe, pv, r1, r2, r3, r4, r5)) :
    ∀ b ak aT av, b ≤ n → (∀ j, b ≤ j → j < n → ew_ela s (e j)) → (∀ j, j < b → ew_ae j (e j) ak aT av) → (∀ j, b < j → j ≤ n → ew_ae j (e (j - 1)) ak aT av) → wX_insertEvent_6 post (nI s.1) (nI s.2.1) s.2.2 (b + 1) (nI b) (nI g) l w D (nI n) (nI m) c ak aT av pk ps pe pv r1 r2 r3 r4 r5 := by
  intro b
  induction b with
  | zero =>
    intro ak aT av hb hl h1 h2
    exact br_t (nI_le (b := 0) (Nat.le_refl 0) (by omega)) (xe_ins1 hb hn (fun ak aT av a1 => K 0 ak aT av hb hl (Or.inl rfl) a1) h1 h2)
  | succ b ih =>
    intro ak aT av hb hl h1 h2
    have e1 : nI (b + 1) - 1 = nI b := nI_pred b
    have a1 := h1 b (by omega)
    refine br_f (nI_nle (by omega) (by omega)) ?_
    rw [e1]
    refine xe_aft (by omega) a1 (hp b (by omega)) hs (fun z => br_f ew_10 (xe_move (by omega) (by omega) (nm_r (pk_m1 b) (ih _ _ _ (by omega) (fun j u v => ?_) (fun j u => ew_ae_n (by omega) (h1 j (by omega))) (fun j u v => ?_))))) (fun z => br_t rfl (xe_ins1 hb hn (fun ak aT av d1 => K (b + 1) ak aT av hb hl (Or.inr z) d1) h1 h2))
    · by_cases f : j = b
      · subst f
        exact z
      · exact hl j (by omega) v
    · by_cases f : j = b + 1
      · subst f
        exact ew_ae_s a1.1 a1.2.1 a1.2.2
      · exact ew_ae_n f (h2 j (by omega) v)
theorem xe_ins {s : ew_E} (H : ew_ev g n e ak aT av) (hn : n < 32) (hs : ew_eb s) {post : Int32 → St2 → Prop}
    (K : ∀ b ak aT av, b ≤ n → (∀ j, b ≤ j → j < n → ew_ela s (e j)) → (b = 0 ∨ ¬ ew_ela s (e (b - 1))) → ew_aE (n + 1) (ew_put e s b) ak aT av → post (nI b) (nI g, l, w, D, nI (n + 1), nI m, c, ak, aT, av, pk, ps, pe, pv, r1, r2, r3, r4, r5)) : wpX_insertEvent post (nI g, l, w, D, nI n, nI m, c, ak, aT, av, pk, ps, pe, pv, r1, r2, r3, r4, r5) (nI s.1) (nI s.2.1) s.2.2 :=
  ⟨n + 1, xe_ins0 hn H.2.2.2.2 hs K n ak aT av (Nat.le_refl _) (fun j u v => by omega) (fun j u => H.2.2.2.1 j u) (fun j u v => by omega)⟩
/-- firing, as X does it -/
theorem xa_fire {kd : Int32} (H : ew_ev g n e ak aT av) (Hs : ew_srt e n) (HP : ew_pa m p pk ps pe pv) (HG : ew_G g (ew_L e n) (ew_L p m)) (hi : i < n) (ho : ew_op g e i) {post : St2 → Prop}
    (K : ∀ k pk ps pe pv q R', ew_pa k q pk ps pe pv → (ew_L q k, R') = ew_fi kd (ew_L p m, R) (ew_ss g (ew_L e n) ((e i).1, (e i).2.1)) → post (nI g, l, w, D, nI n, nI k, R'.2.2.2.2.2, ak, aT, av, pk, ps, pe, pv, R'.1, R'.2.1, R'.2.2.1, R'.2.2.2.1, R'.2.2.2.2.1)) : wpX_fire post (nI g, l, w, D, nI n, nI m, R.2.2.2.2.2, ak, aT, av, pk, ps, pe, pv, R.1, R.2.1, R.2.2.1, R.2.2.2.1, R.2.2.2.2.1) (nI i) kd := by
  obtain ⟨hg, hg2, hn, hE, hb⟩ := id H
  obtain ⟨q, B⟩ := ew_bx (g := g) (e := e) hi
  have B1 := B.1
  have B2 := B.2.1
  have v1 : vp_in (nI i) 32 := vp_in_nI (by omega) (by omega)
  have c1 : (nI i).toNatClampNeg = i := nI_clamp (by omega)
  have O := ew_opO Hs hi ho
  obtain ⟨S1, _⟩ := ew_sX Hs hg ho B
  have hs : ew_xb (ew_ss g (ew_L e n) ((e i).1, (e i).2.1)) := by
    rw [S1]
    have b1 := hb i hi
    have b2 := hb (q - 1) (by omega)
    refine ⟨b1.1, ?_, ?_⟩ <;> dsimp only <;> omega
  have hne : ∀ y, y ∈ ew_N (ew_ss g (ew_L e n) ((e i).1, (e i).2.1)) (ew_L p m) → ew_pk y ≠ ew_pk (ew_ss g (ew_L e n) ((e i).1, (e i).2.1)) := by
    intro y hy z
    obtain ⟨y1, y2⟩ := ew_N_m.mp hy
    exact y2 (ew_same O (HG.2.1 y y1) (congrArg Prod.fst z) (congrArg Prod.snd z))
  have hNp := ew_N_p (ew_ss g (ew_L e n) ((e i).1, (e i).2.1)) HG.1
  have Fy := ew_fi_y (kind := kd) (st := (ew_L p m, R)) (x := ew_ss g (ew_L e n) ((e i).1, (e i).2.1))
  have Fn := ew_fi_n (kind := kd) (st := (ew_L p m, R)) (x := ew_ss g (ew_L e n) ((e i).1, (e i).2.1))
  refine ⟨v1, nm_r (e' := nI (e i).1) (by rw [c1, (hE i hi).1]) ⟨v1, nm_r (e' := nI (e i).2.1) (by rw [c1, (hE i hi).2.1]) ?_⟩⟩
  refine xa_end H B ?_
  refine xa_sum H B ?_
  rw [S1] at hs hne hNp Fy Fn K
  refine xp_syn (s := ((e i).1, (e i).2.1, (e (q - 1)).2.1 + g, ew_su (ew_in i q) (fun j => (e j).2.2) q)) HP hs (fun z => br_f ew_10 ?_) (fun z => br_t rfl ?_)
  · exact K m pk ps pe pv p R HP (Fy z).symm
  · refine xp_ret HP hs (fun k pk ps pe pv q' h1 h2 => xp_emit ?_)
    refine xp_add h1 hs (by rw [h2]; exact hNp) (by rw [h2]; exact hne) (fun k2 pk ps pe pv q2 h3 h4 => ?_)
    refine K k2 pk ps pe pv q2 _ h3 ?_
    rw [Fn z, h4, h2]
end
