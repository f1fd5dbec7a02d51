/-! X: expiring, advancing, firing early, adding -/
section
variable {g n m i j q x k b y lt W : Nat} {l w D c0 : Int32} {ak aT av pk ps pe pv r1 r2 r3 r4 r5 : Nat → Int32} {p : Nat → ew_P} {s : ew_P} {R : ew_R} {e c : Nat → ew_E}
theorem xe_shift0 {nc : Nat} (hn : nc ≤ 32) (hiq : i < q) {post : St2 → Prop}
    (K : ∀ k ak aT av f, ew_aE k f ak aT av → ew_L f k = ew_L c i ++ ew_L (fun j => c (q + j)) (nc - q) → post (nI g, l, w, D, nI k, nI m, c0, ak, aT, av, pk, ps, pe, pv, r1, r2, r3, r4, r5)) :
    ∀ d x k ak aT av f, x + d = nc → q ≤ x → k = i + (x - q) → ew_aE k f ak aT av → (∀ j, x ≤ j → j < nc → ew_ae j (c j) ak aT av) → ew_L f k = ew_L c i ++ ew_L (fun j => c (q + j)) (x - q) → wX_expire_43 post (d + 1) (nI k) (nI x) (nI g) l w D (nI nc) (nI m) c0 ak aT av pk ps pe pv r1 r2 r3 r4 r5 := by
  intro d
  induction d with
  | zero =>
    intro x k ak aT av f hx hq hk h1 h2 h3
    have hx' : x = nc := by omega
    subst hx'
    exact br_t (nI_le (by omega) (by omega)) (K k ak aT av f h1 h3)
  | succ d ih =>
    intro x k ak aT av f hx hq hk h1 h2 h3
    have ax := h2 x (Nat.le_refl _) (by omega)
    refine br_f (nI_ge (by omega) (by omega)) (xe_move (by omega) (by omega) (nm_r (nI_1 k) (nm_r (nI_1 x) (ih (x + 1) (k + 1) _ _ _ (fun j => if j = k then c x else f j) (by omega) (by omega) (by omega) (fun j hj => ?_) (fun j a b => ?_) ?_))))
    · dsimp only
      by_cases z : j = k
      · rw [if_pos z, z]
        exact ew_ae_s ax.1 ax.2.1 ax.2.2
      · rw [if_neg z]
        exact ew_ae_n z (h1 j (by omega))
    · exact ew_ae_n (by omega) (h2 j (by omega) b)
    · have e1 : ew_L (fun j => if j = k then c x else f j) k = ew_L f k := ew_Lc (fun j hj => if_neg (by omega))
      rw [ew_Ls, if_pos rfl, e1, h3, show x + 1 - q = (x - q) + 1 by omega, ew_Ls, show q + (x - q) = x by omega, List.append_assoc]
theorem xa_exp {nc : Nat} (H : ew_ev g nc c ak aT av) (HP : ew_pa m p pk ps pe pv) (B : ew_blk g c nc i q) (hs : ew_xb s) (s1 : s.1 = (c i).1) (s2 : s.2.1 = (c i).2.1) (s3 : s.2.2.1 = (c (q - 1)).2.1 + g) {post : St2 → Prop}
    (K : ∀ k ak aT av f m' pk ps pe pv p', ew_aE k f ak aT av → ew_L f k = ew_L c i ++ ew_L (fun j => c (q + j)) (nc - q) → ew_pa m' p' pk ps pe pv → ew_L p' m' = ew_N s (ew_L p m) → post (nI g, l, w, D, nI k, nI m', c0, ak, aT, av, pk, ps, pe, pv, r1, r2, r3, r4, r5)) : wpX_expire post (nI g, l, w, D, nI nc, nI m, c0, ak, aT, av, pk, ps, pe, pv, r1, r2, r3, r4, r5) (nI i) := by
  obtain ⟨hg, hg2, hn, hE, hb⟩ := id H
  have B1 := B.1
  have B2 := B.2.1
  have v1 : vp_in (nI i) 32 := vp_in_nI (by omega) (by omega)
  have c1 : (nI i).toNatClampNeg = i := nI_clamp (by omega)
  have e1 := ew_q1 (show 0 < q by omega)
  have a1 := hE i (by omega)
  refine xa_past H B ⟨?_, nm_r (e' := nI s.2.2.1) ?_ ⟨v1, v1, ?_⟩⟩
  · rw [e1]
    exact vp_in_nI (by omega) (by omega)
  · rw [e1, nI_clamp (by omega), (hE (q - 1) (by omega)).2.1, nI_add, s3]
  · rw [c1, a1.1, a1.2.1, ← s1, ← s2]
    refine xp_rem HP hs (fun m' pk ps pe pv p' h1 h2 => ⟨nc - q + 1, ?_⟩)
    refine xe_shift0 hn B1 (fun k ak aT av f g1 g2 => K k ak aT av f m' pk ps pe pv p' g1 g2 h1 h2) (nc - q) q i ak aT av c (by omega) (Nat.le_refl _) (by omega) (fun j hj => hE j (by omega)) (fun j _ hj => hE j hj) ?_
    rw [Nat.sub_self]
    exact (List.append_nil _).symm
theorem xa_exps0 (hok : ew_ok g lt W n e) (Hs : ew_srt e n) {P0 : List ew_P} {post : St2 → Prop}
    (K : ∀ nc mc c p ak aT av pk ps pe pv, ew_aE nc c ak aT av → ew_L c nc = (ew_L e n).filter (ew_kp g (ew_L e n) lt W) → ew_pa mc p pk ps pe pv → ew_L p mc = P0.filter (ew_pp g (ew_L e n) lt W) → post (nI g, nI lt, nI W, D, nI nc, nI mc, c0, ak, aT, av, pk, ps, pe, pv, r1, r2, r3, r4, r5)) :
    ∀ y Q nc mc c p ak aT av pk ps pe pv, y ≤ Q → Q ≤ n → (∀ j, y ≤ j → j < Q → ¬ ew_op g e j) → (Q < n → ew_op g e Q) → ew_aE nc c ak aT av → ew_L c nc = ew_L e Q ++ ew_T g e n lt W Q → ew_pa mc p pk ps pe pv → ew_L p mc = P0.filter (ew_FX g e n lt W y) →
      wX_expireSessions_7 post (y + 1) (nI y - 1) (nI g) (nI lt) (nI W) D (nI nc) (nI mc) c0 ak aT av pk ps pe pv r1 r2 r3 r4 r5 := by
  obtain ⟨o1, o2, o3, o4, o5, o6⟩ := id hok
  intro y
  induction y with
  | zero =>
    intro Q nc mc c p ak aT av pk ps pe pv h1 h2 h3 h4 h5 h6 h7 h8
    have hQ : Q = 0 := Nat.le_antisymm (Nat.not_lt.mp fun z => h3 0 (Nat.le_refl _) z (Or.inl rfl)) (Nat.zero_le _)
    subst hQ
    rw [ew_T_0] at h6
    rw [ew_FX_0 Hs o1] at h8
    exact br_t (by decide) (K nc mc c p ak aT av pk ps pe pv h5 h6 h7 h8)
  | succ y ih =>
    intro Q nc mc c p ak aT av pk ps pe pv h1 h2 h3 h4 h5 h6 h7 h8
    obtain ⟨L1, L2, L3⟩ := ew_Lpre h6
    have hT : (ew_T g e n lt W Q).length ≤ n - Q := by
      refine Nat.le_trans (List.length_filter_le _ _) ?_
      rw [ew_Ll]
      exact Nat.le_refl _
    have H : ew_ev g nc c ak aT av := by
      refine ⟨o1, o2, by omega, h5, fun j hj => ?_⟩
      have hm : c j ∈ ew_L e Q ++ ew_T g e n lt W Q := by
        rw [← h6]
        exact ew_Lm.mpr ⟨j, hj, rfl⟩
      rcases List.mem_append.mp hm with z | z
      · obtain ⟨t, ht, z2⟩ := ew_Lm.mp z
        rw [← z2]
        exact o6 t (by omega)
      · obtain ⟨t, _, ht, z2⟩ := ew_T_m z
        rw [← z2]
        exact o6 t ht
    have hop : ew_op g c y ↔ ew_op g e y := by
      unfold ew_op
      rw [L2 y (by omega), L2 (y - 1) (by omega)]
    have em : nI y + (-1) = nI y - 1 := (Int32.sub_eq_add_neg _ _).symm
    rw [nI_pred]
    refine br_f (nI_pos (by omega)) (xa_open H (by omega) (fun ho => br_f ew_10 ?_) (fun ho => br_t rfl (nm_r em (ih Q nc mc c p ak aT av pk ps pe pv (by omega) h2 (fun j a b => ?_) h4 h5 h6 h7 ?_))))
    · have ho' := hop.mp ho
      have B : ew_blk g e n y Q := ⟨by omega, h2, fun j a b => h3 j (by omega) b, h4⟩
      have Bc := ew_T_b Hs B h6
      obtain ⟨S1, _⟩ := ew_sX Hs o1 ho' B
      have O := ew_opO Hs (show y < n by omega) ho'
      have bs := ew_okS (ks := ((e y).1, (e y).2.1)) hok O
      have hend : (c (Q - 1)).2.1 + g = (ew_ss g (ew_L e n) ((e y).1, (e y).2.1)).2.2.1 := by
        rw [S1, L2 (Q - 1) (by omega)]
      refine xa_end H Bc ?_
      rw [hend, nI_add]
      refine ek_if (nI_ltI (by omega) (by omega)) (fun z => nm_r em (ih y nc mc c p ak aT av pk ps pe pv (Nat.le_refl _) (by omega) (fun j a b => by omega) (fun _ => ho') h5 ?_ h7 ?_)) (fun z => ?_)
      · rw [← ew_T_y Hs B ho' (by omega)]
        exact h6
      · rw [h8]
        exact ew_FX_keep P0 (fun z2 => by have := z2.2; omega)
      · refine xa_exp H h7 Bc (s := ew_ss g (ew_L e n) ((e y).1, (e y).2.1)) ⟨bs.1, by omega, bs.2.2⟩ ?_ ?_ hend.symm (fun k ak aT av f m' pk ps pe pv p' g1 g2 g3 g4 => nm_r em (ih y k m' f p' ak aT av pk ps pe pv (Nat.le_refl _) (by omega) (fun j a b => by omega) (fun _ => ho') g1 ?_ g3 ?_))
        · rw [L2 y (by omega)]
          rfl
        · rw [L2 y (by omega)]
          rfl
        · have e2 : ew_L c y = ew_L e y := ew_Lc (fun j hj => L2 j (by omega))
          rw [g2, L3, e2, ew_T_n Hs B ho' (by omega)]
        · rw [g4, h8]
          exact ew_FX_go P0 (by omega) ho' (by omega)
    · by_cases f : j = y
      · subst f
        exact fun z => ho (hop.mpr z)
      · exact h3 j (by omega) b
    · rw [h8]
      exact ew_FX_keep P0 (fun z2 => ho (hop.mpr z2.1))
theorem xa_exps (hok : ew_ok g lt W n e) (Hs : ew_srt e n) (hE : ew_aE n e ak aT av) (HP : ew_pa m p pk ps pe pv) {post : St2 → Prop}
    (K : ∀ nc mc c p' ak aT av pk ps pe pv, ew_aE nc c ak aT av → ew_L c nc = (ew_L e n).filter (ew_kp g (ew_L e n) lt W) → ew_pa mc p' pk ps pe pv → ew_L p' mc = (ew_L p m).filter (ew_pp g (ew_L e n) lt W) → post (nI g, nI lt, nI W, D, nI nc, nI mc, c0, ak, aT, av, pk, ps, pe, pv, r1, r2, r3, r4, r5)) : wpX_expireSessions post (nI g, nI lt, nI W, D, nI n, nI m, c0, ak, aT, av, pk, ps, pe, pv, r1, r2, r3, r4, r5) := by
  refine nm_e ⟨n + 1, xa_exps0 hok Hs (P0 := ew_L p m) K n n n m e p ak aT av pk ps pe pv (Nat.le_refl _) (Nat.le_refl _) (fun j a b => by omega) (fun z => by omega) hE ?_ HP ?_⟩
  · rw [ew_T_e, List.append_nil]
  · rw [ew_FX_n]
/-- fire, if the end is so -/
noncomputable def ew_fs (kd : Int32) (t : Nat → Bool) (g : Nat) (E : List ew_E) (st : List ew_P × ew_R) (ks : Nat × Nat) : List ew_P × ew_R := if t (ew_ss g E ks).2.2.1 = true then ew_fi kd st (ew_ss g E ks) else st
theorem ew_fs_y {kd : Int32} {t : Nat → Bool} {E : List ew_E} {st : List ew_P × ew_R} {ks : Nat × Nat} (h : t (ew_ss g E ks).2.2.1 = true) : ew_fs kd t g E st ks = ew_fi kd st (ew_ss g E ks) := by
  unfold ew_fs
  rw [if_pos h]
theorem ew_fs_n {kd : Int32} {t : Nat → Bool} {E : List ew_E} {st : List ew_P × ew_R} {ks : Nat × Nat} (h : ¬ t (ew_ss g E ks).2.2.1 = true) : ew_fs kd t g E st ks = st := by
  unfold ew_fs
  rw [if_neg h]
theorem ew_fs_G {kd : Int32} {t : Nat → Bool} {E : List ew_E} {st : List ew_P × ew_R} {ks : Nat × Nat} (hg : 0 < g) (ho : ew_O g (ew_M E) ks.1 ks.2) (h : ew_G g E st.1) : ew_G g E (ew_fs kd t g E st ks).1 := by
  unfold ew_fs
  split
  · exact ew_fi_G hg (k := ks.1) (s := ks.2) ho h
  · exact h
theorem ew_ff_G {kd : Int32} {t : Nat → Bool} {E : List ew_E} (hg : 0 < g) : ∀ (L : List (Nat × Nat)) (st : List ew_P × ew_R), (∀ ks, ks ∈ L → ew_O g (ew_M E) ks.1 ks.2) → ew_G g E st.1 → ew_G g E (L.foldl (ew_fs kd t g E) st).1 := by
  intro L
  induction L with
  | nil => intro st _ h; exact h
  | cons a L ih =>
    intro st ho h
    exact ih _ (fun ks hk => ho ks (List.mem_cons_of_mem _ hk)) (ew_fs_G hg (ho a List.mem_cons_self) h)
theorem ew_xl_O (Hs : ew_srt e n) (hx : x ≤ n) {ks : Nat × Nat} (h : ks ∈ ew_xl g e x) : ew_O g (ew_M (ew_L e n)) ks.1 ks.2 := by
  unfold ew_xl at h
  obtain ⟨j, hj, rfl⟩ := List.mem_map.mp h
  obtain ⟨h1, h2⟩ := List.mem_filter.mp hj
  have := List.mem_range.mp h1
  exact ew_opO Hs (by omega) (ew_dcI.mp h2)
theorem xa_adv0 (hok : ew_ok g lt W n e) (Hs : ew_srt e n) (hE : ew_aE n e ak aT av) {st0 : List ew_P × ew_R} (HG : ew_G g (ew_L e n) st0.1) {post : Int32 → St2 → Prop} {x2 : Int32}
    (K : ∀ nc mc c p R ak aT av pk ps pe pv, ew_aE nc c ak aT av → ew_L c nc = (ew_L e n).filter (ew_kp g (ew_L e n) lt W) → ew_pa mc p pk ps pe pv → (ew_L p mc, R) = (((ew_xl g e n).foldl (ew_fs 2 (fun z => ew_dc (z ≤ W)) g (ew_L e n)) st0).1.filter (ew_pp g (ew_L e n) lt W), ((ew_xl g e n).foldl (ew_fs 2 (fun z => ew_dc (z ≤ W)) g (ew_L e n)) st0).2) → post (R.2.2.2.2.2 - x2) (nI g, nI lt, nI W, D, nI nc, nI mc, R.2.2.2.2.2, ak, aT, av, pk, ps, pe, pv, R.1, R.2.1, R.2.2.1, R.2.2.2.1, R.2.2.2.2.1)) :
    ∀ d x m p R pk ps pe pv, x + d = n → ew_pa m p pk ps pe pv → (ew_L p m, R) = (ew_xl g e x).foldl (ew_fs 2 (fun z => ew_dc (z ≤ W)) g (ew_L e n)) st0 → wX_advance_28 post x2 (d + 1) (nI x) (nI g) (nI lt) (nI W) D (nI n) (nI m) R.2.2.2.2.2 ak aT av pk ps pe pv R.1 R.2.1 R.2.2.1 R.2.2.2.1 R.2.2.2.2.1 := by
  obtain ⟨o1, o2, o3, o4, o5, o6⟩ := id hok
  have H : ew_ev g n e ak aT av := ⟨o1, o2, o5, hE, o6⟩
  intro d
  induction d with
  | zero =>
    intro x m p R pk ps pe pv hx HP hR
    have hx' : x = n := by omega
    subst hx'
    refine br_t (nI_le (by omega) (by omega)) (xa_exps hok Hs hE HP (fun nc mc c p' ak aT av pk ps pe pv g1 g2 g3 g4 => K nc mc c p' R ak aT av pk ps pe pv g1 g2 g3 ?_))
    rw [← hR, g4]
  | succ d ih =>
    intro x m p R pk ps pe pv hx HP hR
    have G1 : ew_G g (ew_L e n) (ew_L p m) := by
      have := ew_ff_G (kd := 2) (t := fun z => ew_dc (z ≤ W)) o1 (ew_xl g e x) st0 (fun ks hk => ew_xl_O Hs (by omega) hk) HG
      rw [← hR] at this
      exact this
    refine br_f (nI_ge (by omega) (by omega)) (xa_open H (by omega) (fun ho => br_f ew_10 ?_) (fun ho => br_t rfl (nm_r (nI_1 x) (ih (x + 1) m p R pk ps pe pv (by omega) HP ?_))))
    · obtain ⟨q, B⟩ := ew_bx (g := g) (e := e) (show x < n by omega)
      obtain ⟨S1, _⟩ := ew_sX Hs o1 ho B
      have O := ew_opO Hs (show x < n by omega) ho
      have bs := ew_okS (ks := ((e x).1, (e x).2.1)) hok O
      have hend : (e (q - 1)).2.1 + g = (ew_ss g (ew_L e n) ((e x).1, (e x).2.1)).2.2.1 := by rw [S1]
      refine xa_end H B ?_
      rw [hend]
      refine ek_if (nI_ltI (by omega) (by omega)) (fun z => nm_r (nI_1 x) (ih (x + 1) m p R pk ps pe pv (by omega) HP ?_)) (fun z => xa_fire H Hs HP G1 (by omega) ho (fun k pk ps pe pv q' R' g1 g2 => nm_r (nI_1 x) (ih (x + 1) k q' R' pk ps pe pv (by omega) g1 ?_)))
      · rw [hR, ew_xl_y ho, List.foldl_append]
        rw [List.foldl_cons, List.foldl_nil, ew_fs_n]
        intro z2
        have := ew_dcI.mp z2
        omega
      · rw [g2, hR, ew_xl_y ho, List.foldl_append]
        rw [List.foldl_cons, List.foldl_nil, ew_fs_y (t := fun z => ew_dc (z ≤ W)) (ew_dcI.mpr (by omega))]
    · rw [hR, ew_xl_n ho]
theorem xa_adv (hok : ew_ok g lt W n e) (Hs : ew_srt e n) (hE : ew_aE n e ak aT av) (HP : ew_pa m p pk ps pe pv) (HG : ew_G g (ew_L e n) (ew_L p m)) {W' : Nat} (hW : W < W') (hW2 : W' ≤ 2100000) {post : Int32 → St2 → Prop}
    (K : ∀ nc mc c p' R' ak aT av pk ps pe pv, ew_aE nc c ak aT av → ew_L c nc = (ew_L e n).filter (ew_kp g (ew_L e n) lt W') → ew_pa mc p' pk ps pe pv → (ew_L p' mc, R') = (((ew_xl g e n).foldl (ew_fs 2 (fun z => ew_dc (z ≤ W')) g (ew_L e n)) (ew_L p m, R)).1.filter (ew_pp g (ew_L e n) lt W'), ((ew_xl g e n).foldl (ew_fs 2 (fun z => ew_dc (z ≤ W')) g (ew_L e n)) (ew_L p m, R)).2) → post (R'.2.2.2.2.2 - R.2.2.2.2.2) (nI g, nI lt, nI W', D, nI nc, nI mc, R'.2.2.2.2.2, ak, aT, av, pk, ps, pe, pv, R'.1, R'.2.1, R'.2.2.1, R'.2.2.2.1, R'.2.2.2.2.1)) : wpX_advance post (nI g, nI lt, nI W, D, nI n, nI m, R.2.2.2.2.2, ak, aT, av, pk, ps, pe, pv, R.1, R.2.1, R.2.2.1, R.2.2.2.1, R.2.2.2.2.1) (nI W') := by
  have hok' : ew_ok g lt W' n e := ⟨hok.1, hok.2.1, hok.2.2.1, hW2, hok.2.2.2.2⟩
  have h4 := hok.2.2.2.1
  exact br_f (nI_ge hW (by omega)) (br_t (nI_le (b := 2100000) hW2 (by omega)) ⟨n + 1, xa_adv0 hok' Hs hE HG K n 0 m p R pk ps pe pv (by omega) HP rfl⟩)
theorem xa_ear0 (hok : ew_ok g lt W n e) (Hs : ew_srt e n) (hE : ew_aE n e ak aT av) {st0 : List ew_P × ew_R} (HG : ew_G g (ew_L e n) st0.1) {post : Int32 → St2 → Prop} {x2 : Int32}
    (K : ∀ m p R pk ps pe pv, ew_pa m p pk ps pe pv → (ew_L p m, R) = (ew_xl g e n).foldl (ew_fs 1 (fun z => ew_dc (¬ z ≤ W)) g (ew_L e n)) st0 → post (R.2.2.2.2.2 - x2) (nI g, nI lt, nI W, D, nI n, nI m, R.2.2.2.2.2, ak, aT, av, pk, ps, pe, pv, R.1, R.2.1, R.2.2.1, R.2.2.2.1, R.2.2.2.2.1)) :
    ∀ d x m p R pk ps pe pv, x + d = n → ew_pa m p pk ps pe pv → (ew_L p m, R) = (ew_xl g e x).foldl (ew_fs 1 (fun z => ew_dc (¬ z ≤ W)) g (ew_L e n)) st0 → wX_early_7 post x2 (d + 1) (nI x) (nI g) (nI lt) (nI W) D (nI n) (nI m) R.2.2.2.2.2 ak aT av pk ps pe pv R.1 R.2.1 R.2.2.1 R.2.2.2.1 R.2.2.2.2.1 := by
  obtain ⟨o1, o2, o3, o4, o5, o6⟩ := id hok
  have H : ew_ev g n e ak aT av := ⟨o1, o2, o5, hE, o6⟩
  intro d
  induction d with
  | zero =>
    intro x m p R pk ps pe pv hx HP hR
    have hx' : x = n := by omega
    subst hx'
    exact br_t (nI_le (by omega) (by omega)) (K m p R pk ps pe pv HP hR)
  | succ d ih =>
    intro x m p R pk ps pe pv hx HP hR
    have G1 : ew_G g (ew_L e n) (ew_L p m) := by
      have := ew_ff_G (kd := 1) (t := fun z => ew_dc (¬ z ≤ W)) o1 (ew_xl g e x) st0 (fun ks hk => ew_xl_O Hs (by omega) hk) HG
      rw [← hR] at this
      exact this
    refine br_f (nI_ge (by omega) (by omega)) (xa_open H (by omega) (fun ho => br_f ew_10 ?_) (fun ho => br_t rfl (nm_r (nI_1 x) (ih (x + 1) m p R pk ps pe pv (by omega) HP ?_))))
    · obtain ⟨q, B⟩ := ew_bx (g := g) (e := e) (show x < n by omega)
      obtain ⟨S1, _⟩ := ew_sX Hs o1 ho B
      have O := ew_opO Hs (show x < n by omega) ho
      have bs := ew_okS (ks := ((e x).1, (e x).2.1)) hok O
      have hend : (e (q - 1)).2.1 + g = (ew_ss g (ew_L e n) ((e x).1, (e x).2.1)).2.2.1 := by rw [S1]
      refine xa_end H B ?_
      rw [hend]
      refine ek_if (nI_leI (by omega) (by omega)) (fun z => nm_r (nI_1 x) (ih (x + 1) m p R pk ps pe pv (by omega) HP ?_)) (fun z => xa_fire H Hs HP G1 (by omega) ho (fun k pk ps pe pv q' R' g1 g2 => nm_r (nI_1 x) (ih (x + 1) k q' R' pk ps pe pv (by omega) g1 ?_)))
      · rw [hR, ew_xl_y ho, List.foldl_append]
        rw [List.foldl_cons, List.foldl_nil, ew_fs_n]
        exact fun z2 => (ew_dcI.mp z2) z
      · rw [g2, hR, ew_xl_y ho, List.foldl_append]
        rw [List.foldl_cons, List.foldl_nil, ew_fs_y (t := fun z => ew_dc (¬ z ≤ W)) (ew_dcI.mpr z)]
    · rw [hR, ew_xl_n ho]
theorem xa_ear (hok : ew_ok g lt W n e) (Hs : ew_srt e n) (hE : ew_aE n e ak aT av) (HP : ew_pa m p pk ps pe pv) (HG : ew_G g (ew_L e n) (ew_L p m)) {post : Int32 → St2 → Prop}
    (K : ∀ m' p' R' pk ps pe pv, ew_pa m' p' pk ps pe pv → (ew_L p' m', R') = (ew_xl g e n).foldl (ew_fs 1 (fun z => ew_dc (¬ z ≤ W)) g (ew_L e n)) (ew_L p m, R) → post (R'.2.2.2.2.2 - R.2.2.2.2.2) (nI g, nI lt, nI W, D, nI n, nI m', R'.2.2.2.2.2, ak, aT, av, pk, ps, pe, pv, R'.1, R'.2.1, R'.2.2.1, R'.2.2.2.1, R'.2.2.2.2.1)) : wpX_early post (nI g, nI lt, nI W, D, nI n, nI m, R.2.2.2.2.2, ak, aT, av, pk, ps, pe, pv, R.1, R.2.1, R.2.2.1, R.2.2.2.1, R.2.2.2.2.1) :=
  ⟨n + 1, xa_ear0 hok Hs hE (st0 := (ew_L p m, R)) HG K n 0 m p R pk ps pe pv (by omega) HP rfl⟩
end
