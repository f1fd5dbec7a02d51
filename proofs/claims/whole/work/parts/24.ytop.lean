/-! Y: early, advance, paneField -/
section
variable {g n m i j x k r lt W : Nat} {l w D c kd : Int32} {ek et ev la mk pk ps pe pv r1 r2 r3 r4 r5 : Nat → Int32} {e f : Nat → ew_E} {lb : Nat → Nat} {q : Nat → ew_P} {s y : ew_P} {R : ew_R}
theorem ew_G_p {E E' : List ew_E} {P : List ew_P} (h : E.Perm E') (hG : ew_G g E P) : ew_G g E' P := by
  unfold ew_G at hG ⊢
  rw [← ew_Mp h]
  exact hG
theorem ew_tk {t : Nat → Bool} {E : List ew_E} {st0 : List ew_P × ew_R} {L : List (Nat × Nat)} {ks : Nat × Nat} (h : L[x]? = some ks) : (L.take (x + 1)).foldl (ew_fs kd t g E) st0 = ew_fs kd t g E ((L.take x).foldl (ew_fs kd t g E) st0) ks := by
  rw [List.take_succ, h, List.foldl_append]
  rfl
theorem yt_ear0 (H : ew_yv g n e lb ek et ev la) (hok : ew_ok g lt W n e) (hp : (ew_L f n).Perm (ew_L e n)) (hs : ew_srt f n) {st0 : List ew_P × ew_R} (HG : ew_G g (ew_L f n) st0.1) {post : Int32 → SY → Prop} {x1 : Int32}
    (K : ∀ m q pk ps pe pv, ew_pa m q pk ps pe pv → ((ew_xl g f n).foldl (ew_fs 1 (fun z => ew_dc (¬ z ≤ W)) g (ew_L f n)) st0).1.Perm (ew_L q m) → post (((ew_xl g f n).foldl (ew_fs 1 (fun z => ew_dc (¬ z ≤ W)) g (ew_L f n)) st0).2.2.2.2.2.2 - x1) (nI g, nI lt, nI W, nI n, D, ((ew_xl g f n).foldl (ew_fs 1 (fun z => ew_dc (¬ z ≤ W)) g (ew_L f n)) st0).2.2.2.2.2.2, nI m, ek, et, ev, la, mk, pk, ps, pe, pv, ((ew_xl g f n).foldl (ew_fs 1 (fun z => ew_dc (¬ z ≤ W)) g (ew_L f n)) st0).2.1, ((ew_xl g f n).foldl (ew_fs 1 (fun z => ew_dc (¬ z ≤ W)) g (ew_L f n)) st0).2.2.1, ((ew_xl g f n).foldl (ew_fs 1 (fun z => ew_dc (¬ z ≤ W)) g (ew_L f n)) st0).2.2.2.1, ((ew_xl g f n).foldl (ew_fs 1 (fun z => ew_dc (¬ z ≤ W)) g (ew_L f n)) st0).2.2.2.2.1, ((ew_xl g f n).foldl (ew_fs 1 (fun z => ew_dc (¬ z ≤ W)) g (ew_L f n)) st0).2.2.2.2.2.1)) :
    ∀ d x m q pk ps pe pv, x + d = (ew_xl g f n).length → ew_pa m q pk ps pe pv → (((ew_xl g f n).take x).foldl (ew_fs 1 (fun z => ew_dc (¬ z ≤ W)) g (ew_L f n)) st0).1.Perm (ew_L q m) →
      wY_early_12 post x1 (nI (ew_xl g f n).length) (d + 1) (nI x) (nI g) (nI lt) (nI W) (nI n) D (((ew_xl g f n).take x).foldl (ew_fs 1 (fun z => ew_dc (¬ z ≤ W)) g (ew_L f n)) st0).2.2.2.2.2.2 (nI m) ek et ev la mk pk ps pe pv (((ew_xl g f n).take x).foldl (ew_fs 1 (fun z => ew_dc (¬ z ≤ W)) g (ew_L f n)) st0).2.1 (((ew_xl g f n).take x).foldl (ew_fs 1 (fun z => ew_dc (¬ z ≤ W)) g (ew_L f n)) st0).2.2.1 (((ew_xl g f n).take x).foldl (ew_fs 1 (fun z => ew_dc (¬ z ≤ W)) g (ew_L f n)) st0).2.2.2.1 (((ew_xl g f n).take x).foldl (ew_fs 1 (fun z => ew_dc (¬ z ≤ W)) g (ew_L f n)) st0).2.2.2.2.1 (((ew_xl g f n).take x).foldl (ew_fs 1 (fun z => ew_dc (¬ z ≤ W)) g (ew_L f n)) st0).2.2.2.2.2.1 := by
  obtain ⟨o1, o2, o3, o4, o5, o6⟩ := id hok
  have hle : (ew_xl g f n).length ≤ n := by
    rw [ew_xl_l]
    exact ew_ct_le _ n
  intro d
  induction d with
  | zero =>
    intro x m q pk ps pe pv hx H1 H2
    rw [List.take_of_length_le (by omega)] at H2 ⊢
    exact br_t (nI_le (by omega) (by omega)) (K m q pk ps pe pv H1 H2)
  | succ d ih =>
    intro x m q pk ps pe pv hx H1 H2
    refine br_f (nI_ge (by omega) (by omega)) (ya_rp H hp hs (by omega) (fun r a b hr => br_f (nI_pos (by omega)) (ya_en H a b ?_)))
    have G1 : ew_G g (ew_L e n) (((ew_xl g f n).take x).foldl (ew_fs 1 (fun z => ew_dc (¬ z ≤ W)) g (ew_L f n)) st0).1 :=
      ew_G_p hp (ew_ff_G o1 _ st0 (fun ks hk => ew_xl_O hs (Nat.le_refl _) (List.mem_of_mem_take hk)) HG)
    have bs := ew_okS hok (ew_ks_O (g := g) (e := e) a)
    have T := ew_tk (kd := 1) (t := fun z => ew_dc (¬ z ≤ W)) (g := g) (E := ew_L f n) (st0 := st0) hr
    refine ek_if (nI_leI (by omega) (by omega)) (fun z => nm_r (nI_1 x) ?_) (fun z => ya_fire H H1 H2 G1 a b (fun k pk ps pe pv q' h1 h2 => nm_r (nI_1 x) ?_))
    · have IH := ih (x + 1) m q pk ps pe pv (by omega) H1
      rw [T, ew_fs_n (fun u => (ew_dcI.mp u) (by rw [ew_ss_p hp]; exact z))] at IH
      exact IH H2
    · have IH := ih (x + 1) k q' pk ps pe pv (by omega) h1
      rw [T, ew_fs_y (t := fun z => ew_dc (¬ z ≤ W)) (ew_dcI.mpr (by rw [ew_ss_p hp]; exact z)), ew_ss_p hp] at IH
      exact IH h2
theorem yt_ear (H : ew_yv g n e lb ek et ev la) (hok : ew_ok g lt W n e) (hp : (ew_L f n).Perm (ew_L e n)) (hs : ew_srt f n) {P : List ew_P} (HP : ew_pa m q pk ps pe pv) (hP : P.Perm (ew_L q m)) (HG : ew_G g (ew_L f n) P) {post : Int32 → SY → Prop}
    (K : ∀ m' q' pk ps pe pv, ew_pa m' q' pk ps pe pv → ((ew_xl g f n).foldl (ew_fs 1 (fun z => ew_dc (¬ z ≤ W)) g (ew_L f n)) (P, R)).1.Perm (ew_L q' m') → post (((ew_xl g f n).foldl (ew_fs 1 (fun z => ew_dc (¬ z ≤ W)) g (ew_L f n)) (P, R)).2.2.2.2.2.2 - R.2.2.2.2.2) (nI g, nI lt, nI W, nI n, D, ((ew_xl g f n).foldl (ew_fs 1 (fun z => ew_dc (¬ z ≤ W)) g (ew_L f n)) (P, R)).2.2.2.2.2.2, nI m', ek, et, ev, la, mk, pk, ps, pe, pv, ((ew_xl g f n).foldl (ew_fs 1 (fun z => ew_dc (¬ z ≤ W)) g (ew_L f n)) (P, R)).2.1, ((ew_xl g f n).foldl (ew_fs 1 (fun z => ew_dc (¬ z ≤ W)) g (ew_L f n)) (P, R)).2.2.1, ((ew_xl g f n).foldl (ew_fs 1 (fun z => ew_dc (¬ z ≤ W)) g (ew_L f n)) (P, R)).2.2.2.1, ((ew_xl g f n).foldl (ew_fs 1 (fun z => ew_dc (¬ z ≤ W)) g (ew_L f n)) (P, R)).2.2.2.2.1, ((ew_xl g f n).foldl (ew_fs 1 (fun z => ew_dc (¬ z ≤ W)) g (ew_L f n)) (P, R)).2.2.2.2.2.1)) : wpY_early post (nI g, nI lt, nI W, nI n, D, R.2.2.2.2.2, nI m, ek, et, ev, la, mk, pk, ps, pe, pv, R.1, R.2.1, R.2.2.1, R.2.2.2.1, R.2.2.2.2.1) := by
  refine ya_sc H ?_
  rw [ew_cnt hp hs H.1.1 H.2.2]
  exact ⟨(ew_xl g f n).length + 1, yt_ear0 H hok hp hs (st0 := (P, R)) HG K (ew_xl g f n).length 0 m q pk ps pe pv (by omega) HP hP⟩
theorem yt_184 (H : ew_ev g n e ek et ev) {P1 : List ew_P} {post : Int32 → SY → Prop} {x2 : Int32} (hmk : ∀ j, j < n → mk j = (if ew_kp g (ew_L e n) lt W (e j) = true then (0 : Int32) else 1))
    (K : ∀ k c la lb ek et ev, ew_yv g k c lb ek et ev la → ew_L c k = (ew_L e n).filter (ew_kp g (ew_L e n) lt W) → post (R.2.2.2.2.2 - x2) (nI g, l, w, nI k, D, R.2.2.2.2.2, nI m, ek, et, ev, la, mk, pk, ps, pe, pv, R.1, R.2.1, R.2.2.1, R.2.2.2.1, R.2.2.2.2.1)) :
    ∀ d x k ek et ev c, x + d = n → k ≤ x → ew_aE k c ek et ev → (∀ j, x ≤ j → j < n → ew_ae j (e j) ek et ev) → ew_L c k = (ew_L e x).filter (ew_kp g (ew_L e n) lt W) → wY_advance_184 post x2 (nI g) l w (nI n) D R.2.2.2.2.2 (nI m) (d + 1) (nI k) (nI x) ek et ev la mk pk ps pe pv R.1 R.2.1 R.2.2.1 R.2.2.2.1 R.2.2.2.2.1 := by
  obtain ⟨hg, hg2, hn, hE, hb⟩ := id H
  intro d
  induction d with
  | zero =>
    intro x k ek et ev c hx hk h1 h2 h3
    have hx' : x = n := by omega
    subst hx'
    have Hc : ew_ev g k c ek et ev := by
      refine ⟨hg, hg2, by omega, h1, fun j hj => ?_⟩
      have hm : c j ∈ (ew_L e x).filter (ew_kp g (ew_L e x) lt W) := by
        rw [← h3]
        exact ew_Lm.mpr ⟨j, hj, rfl⟩
      obtain ⟨t, ht, z2⟩ := ew_Lm.mp (List.mem_filter.mp hm).1
      rw [← z2]
      exact hb t ht
    exact br_t (nI_le (by omega) (by omega)) (yb_rel Hc (fun la lb g1 g2 => K k c la lb ek et ev ⟨Hc, g1, g2⟩ h3))
  | succ d ih =>
    intro x k ek et ev c hx hk h1 h2 h3
    have hx1 : x < n := by omega
    have ax := h2 x (Nat.le_refl _) hx1
    have vx : vp_in (nI x) 32 := vp_in_nI (by omega) (by omega)
    have cx : (nI x).toNatClampNeg = x := nI_clamp (by omega)
    have vk : vp_in (nI k) 32 := vp_in_nI (by omega) (by omega)
    have ck : (nI k).toNatClampNeg = k := nI_clamp (by omega)
    refine br_f (nI_ge (by omega) (by omega)) ⟨vx, ?_⟩
    rw [cx, ck, hmk x hx1]
    by_cases z : ew_kp g (ew_L e n) lt W (e x) = true
    · rw [if_pos z]
      refine br_t rfl ⟨vx, vk, nm_e ⟨vx, vk, nm_e ⟨vx, vk, nm_e (nm_r (nI_1 k) (nm_r (nI_1 x) (ih (x + 1) (k + 1) _ _ _ (fun j => if j = k then e x else c j) (by omega) (by omega) (fun j hj => ?_) (fun j a b => ?_) (ew_cpy h3 z))))⟩⟩⟩
      · dsimp only
        by_cases u : j = k
        · rw [if_pos u, u]
          exact ew_ae_s ax.1 ax.2.1 ax.2.2
        · rw [if_neg u]
          exact ew_ae_n u (h1 j (by omega))
      · exact ew_ae_n (by omega) (h2 j (by omega) b)
    · rw [if_neg z]
      exact br_f ew_10 (nm_r (nI_1 x) (ih (x + 1) k ek et ev c (by omega) (by omega) h1 (fun j a b => h2 j (by omega) b) (ew_cpn h3 z)))
theorem yt_135 (H : ew_yv g n e lb ek et ev la) {P1 : List ew_P} {post : Int32 → SY → Prop} {x2 : Int32} (hmk : ∀ j, j < n → mk j = (if ew_kp g (ew_L e n) lt W (e j) = true then (0 : Int32) else 1))
    (K : ∀ m q pk ps pe pv, ew_pa m q pk ps pe pv → (P1.filter (ew_pp g (ew_L e n) lt W)).Perm (ew_L q m) → ∃ fu, wY_advance_184 post x2 (nI g) l w (nI n) D R.2.2.2.2.2 (nI m) fu 0 0 ek et ev la mk pk ps pe pv R.1 R.2.1 R.2.2.1 R.2.2.2.1 R.2.2.2.2.1) :
    ∀ d x m q pk ps pe pv, x + d = n → ew_pa m q pk ps pe pv → (P1.filter (ew_FY g e n lb lt W x)).Perm (ew_L q m) → wY_advance_135 post x2 (d + 1) (nI x) (nI g) l w (nI n) D R.2.2.2.2.2 (nI m) ek et ev la mk pk ps pe pv R.1 R.2.1 R.2.2.1 R.2.2.2.1 R.2.2.2.2.1 := by
  obtain ⟨⟨hg, hg2, hn, hE, hb⟩, hl, hlb⟩ := id H
  intro d
  induction d with
  | zero =>
    intro x m q pk ps pe pv hx H1 H2
    have hx' : x = n := by omega
    subst hx'
    rw [ew_FY_n hlb] at H2
    exact br_t (nI_le (by omega) (by omega)) (K m q pk ps pe pv H1 H2)
  | succ d ih =>
    intro x m q pk ps pe pv hx H1 H2
    have hx1 : x < n := by omega
    have vx : vp_in (nI x) 32 := vp_in_nI (by omega) (by omega)
    have cx : (nI x).toNatClampNeg = x := nI_clamp (by omega)
    have b2 := (hlb x hx1).1
    have kI : ew_kp g (ew_L e n) lt W (e x) = true ↔ ¬ (ew_ss g (ew_L e n) (ew_ks g e n x)).2.2.1 + lt ≤ W := by
      rw [ew_kp_k, ew_dcI]
    refine br_f (nI_ge (by omega) (by omega)) ⟨vx, ?_⟩
    rw [cx, hl x hx1, hmk x hx1]
    refine ek_if (nI_eq (by omega) (by omega)) (fun z1 => ⟨vx, ?_⟩) (fun z1 => nm_r (nI_1 x) (ih (x + 1) m q pk ps pe pv (by omega) H1 ?_))
    · by_cases z : ew_kp g (ew_L e n) lt W (e x) = true
      · rw [if_pos z]
        refine br_t rfl (nm_r (nI_1 x) (ih (x + 1) m q pk ps pe pv (by omega) H1 ?_))
        rw [ew_FY_keep P1 (fun u => (kI.mp z) u.2)]
        exact H2
      · rw [if_neg z]
        refine br_f ew_10 (ya_drop H H1 H2 hx1 z1 (fun k pk ps pe pv q' h1 h2 => nm_r (nI_1 x) (ih (x + 1) k q' pk ps pe pv (by omega) h1 ?_)))
        rw [ew_FY_go P1 z1 (Classical.byContradiction fun u => z (kI.mpr u))] at h2
        exact h2
    · rw [ew_FY_keep P1 (fun u => z1 u.1)]
      exact H2
theorem ew_n0 : vp_nar .boolean 0 = 0 := rfl
theorem ew_n1 : vp_nar .boolean 1 = 1 := rfl
theorem yt_82 (H : ew_yv g n e lb ek et ev la) (hok : ew_ok g lt W n e) {post : Int32 → SY → Prop} {x2 : Int32}
    (K : ∀ mk, (∀ j, j < n → mk j = (if ew_kp g (ew_L e n) lt W (e j) = true then (0 : Int32) else 1)) → ∃ fu, wY_advance_135 post x2 fu 0 (nI g) (nI lt) (nI W) (nI n) D R.2.2.2.2.2 (nI m) ek et ev la mk pk ps pe pv R.1 R.2.1 R.2.2.1 R.2.2.2.1 R.2.2.2.2.1) :
    ∀ d x mk, x + d = n → (∀ j, j < x → mk j = (if ew_kp g (ew_L e n) lt W (e j) = true then (0 : Int32) else 1)) → wY_advance_82 post x2 (nI g) (nI lt) (nI W) (nI n) D R.2.2.2.2.2 (nI m) (d + 1) (nI x) ek et ev la mk pk ps pe pv R.1 R.2.1 R.2.2.1 R.2.2.2.1 R.2.2.2.2.1 := by
  obtain ⟨⟨hg, hg2, hn, hE, hb⟩, hl, hlb⟩ := id H
  obtain ⟨o1, o2, o3, o4, o5, o6⟩ := id hok
  intro d
  induction d with
  | zero =>
    intro x mk hx h1
    have hx' : x = n := by omega
    subst hx'
    exact br_t (nI_le (by omega) (by omega)) (K mk h1)
  | succ d ih =>
    intro x mk hx h1
    have hx1 : x < n := by omega
    have vx : vp_in (nI x) 32 := vp_in_nI (by omega) (by omega)
    have cx : (nI x).toNatClampNeg = x := nI_clamp (by omega)
    have b2 := hlb x hx1
    have kI : ew_kp g (ew_L e n) lt W (e x) = true ↔ ¬ (ew_ss g (ew_L e n) (ew_ks g e n x)).2.2.1 + lt ≤ W := by
      rw [ew_kp_k, ew_dcI]
    have bs := ew_okS hok (ew_ks_O (g := g) (e := e) hx1)
    have hk : ew_ks g e n (lb x) = ew_ks g e n x := ((ew_ks_i hx1 b2.1).mpr b2.2.1).symm
    have nxt : ∀ v : Int32, v = (if ew_kp g (ew_L e n) lt W (e x) = true then (0 : Int32) else 1) → ∀ j, j < x + 1 → upd mk x v j = (if ew_kp g (ew_L e n) lt W (e j) = true then (0 : Int32) else 1) := by
      intro v hv j hj
      by_cases u : j = x
      · rw [u, pk_us, hv]
      · rw [pk_un u]
        exact h1 j (by omega)
    refine br_f (nI_ge (by omega) (by omega)) ⟨vx, ?_⟩
    rw [cx, hl x hx1]
    refine ya_en H b2.1 (ew_lab_i hlb hx1) ?_
    rw [hk, nI_add]
    refine ek_if (nI_ltI (by omega) (by omega)) (fun z => ⟨vx, nm_r (e' := upd mk x 0) (by rw [ew_n0]) (nm_r (nI_1 x) (ih (x + 1) _ (by omega) (nxt 0 ?_)))⟩) (fun z => ⟨vx, nm_r (e' := upd mk x 1) (by rw [ew_n1]) (nm_r (nI_1 x) (ih (x + 1) _ (by omega) (nxt 1 ?_)))⟩)
    · rw [if_pos (kI.mpr (by omega))]
    · rw [if_neg (fun u => (kI.mp u) (by omega))]
theorem yt_adv0 (H : ew_yv g n e lb ek et ev la) (hok : ew_ok g lt W n e) (hp : (ew_L f n).Perm (ew_L e n)) (hs : ew_srt f n) {st0 : List ew_P × ew_R} (HG : ew_G g (ew_L f n) st0.1) {post : Int32 → SY → Prop} {x1 : Int32}
    (K : ∀ m q pk ps pe pv, ew_pa m q pk ps pe pv → ((ew_xl g f n).foldl (ew_fs 2 (fun z => ew_dc (z ≤ W)) g (ew_L f n)) st0).1.Perm (ew_L q m) → ∃ fu, wY_advance_82 post x1 (nI g) (nI lt) (nI W) (nI n) D ((ew_xl g f n).foldl (ew_fs 2 (fun z => ew_dc (z ≤ W)) g (ew_L f n)) st0).2.2.2.2.2.2 (nI m) fu 0 ek et ev la mk pk ps pe pv ((ew_xl g f n).foldl (ew_fs 2 (fun z => ew_dc (z ≤ W)) g (ew_L f n)) st0).2.1 ((ew_xl g f n).foldl (ew_fs 2 (fun z => ew_dc (z ≤ W)) g (ew_L f n)) st0).2.2.1 ((ew_xl g f n).foldl (ew_fs 2 (fun z => ew_dc (z ≤ W)) g (ew_L f n)) st0).2.2.2.1 ((ew_xl g f n).foldl (ew_fs 2 (fun z => ew_dc (z ≤ W)) g (ew_L f n)) st0).2.2.2.2.1 ((ew_xl g f n).foldl (ew_fs 2 (fun z => ew_dc (z ≤ W)) g (ew_L f n)) st0).2.2.2.2.2.1) :
    ∀ d x m q pk ps pe pv, x + d = (ew_xl g f n).length → ew_pa m q pk ps pe pv → (((ew_xl g f n).take x).foldl (ew_fs 2 (fun z => ew_dc (z ≤ W)) g (ew_L f n)) st0).1.Perm (ew_L q m) →
      wY_advance_34 post x1 (nI (ew_xl g f n).length) (d + 1) (nI x) (nI g) (nI lt) (nI W) (nI n) D (((ew_xl g f n).take x).foldl (ew_fs 2 (fun z => ew_dc (z ≤ W)) g (ew_L f n)) st0).2.2.2.2.2.2 (nI m) ek et ev la mk pk ps pe pv (((ew_xl g f n).take x).foldl (ew_fs 2 (fun z => ew_dc (z ≤ W)) g (ew_L f n)) st0).2.1 (((ew_xl g f n).take x).foldl (ew_fs 2 (fun z => ew_dc (z ≤ W)) g (ew_L f n)) st0).2.2.1 (((ew_xl g f n).take x).foldl (ew_fs 2 (fun z => ew_dc (z ≤ W)) g (ew_L f n)) st0).2.2.2.1 (((ew_xl g f n).take x).foldl (ew_fs 2 (fun z => ew_dc (z ≤ W)) g (ew_L f n)) st0).2.2.2.2.1 (((ew_xl g f n).take x).foldl (ew_fs 2 (fun z => ew_dc (z ≤ W)) g (ew_L f n)) st0).2.2.2.2.2.1 := by
  obtain ⟨o1, o2, o3, o4, o5, o6⟩ := id hok
  have hle : (ew_xl g f n).length ≤ n := by
    rw [ew_xl_l]
    exact ew_ct_le _ n
  intro d
  induction d with
  | zero =>
    intro x m q pk ps pe pv hx H1 H2
    rw [List.take_of_length_le (by omega)] at H2 ⊢
    exact br_t (nI_le (by omega) (by omega)) (K m q pk ps pe pv H1 H2)
  | succ d ih =>
    intro x m q pk ps pe pv hx H1 H2
    refine br_f (nI_ge (by omega) (by omega)) (ya_rp H hp hs (by omega) (fun r a b hr => br_f (nI_pos (by omega)) (ya_en H a b ?_)))
    have G1 : ew_G g (ew_L e n) (((ew_xl g f n).take x).foldl (ew_fs 2 (fun z => ew_dc (z ≤ W)) g (ew_L f n)) st0).1 :=
      ew_G_p hp (ew_ff_G o1 _ st0 (fun ks hk => ew_xl_O hs (Nat.le_refl _) (List.mem_of_mem_take hk)) HG)
    have bs := ew_okS hok (ew_ks_O (g := g) (e := e) a)
    have T := ew_tk (kd := 2) (t := fun z => ew_dc (z ≤ W)) (g := g) (E := ew_L f n) (st0 := st0) hr
    refine ek_if (nI_ltI (by omega) (by omega)) (fun z => nm_r (nI_1 x) ?_) (fun z => ya_fire H H1 H2 G1 a b (fun k pk ps pe pv q' h1 h2 => nm_r (nI_1 x) ?_))
    · have IH := ih (x + 1) m q pk ps pe pv (by omega) H1
      rw [T, ew_fs_n (fun u => by have := ew_dcI.mp u; rw [ew_ss_p hp] at this; omega)] at IH
      exact IH H2
    · have IH := ih (x + 1) k q' pk ps pe pv (by omega) h1
      rw [T, ew_fs_y (t := fun z => ew_dc (z ≤ W)) (ew_dcI.mpr (by rw [ew_ss_p hp]; omega)), ew_ss_p hp] at IH
      exact IH h2
theorem yt_adv (H : ew_yv g n e lb ek et ev la) (hok : ew_ok g lt W n e) (hp : (ew_L f n).Perm (ew_L e n)) (hs : ew_srt f n) {P : List ew_P} (HP : ew_pa m q pk ps pe pv) (hP : P.Perm (ew_L q m)) (HG : ew_G g (ew_L f n) P) {W' : Nat} (hW : W < W') (hW2 : W' ≤ 2100000) {post : Int32 → SY → Prop}
    (K : ∀ k c la lb ek et ev mk m' q' pk ps pe pv, ew_yv g k c lb ek et ev la → ew_L c k = (ew_L e n).filter (ew_kp g (ew_L e n) lt W') → ew_pa m' q' pk ps pe pv → (((ew_xl g f n).foldl (ew_fs 2 (fun z => ew_dc (z ≤ W')) g (ew_L f n)) (P, R)).1.filter (ew_pp g (ew_L e n) lt W')).Perm (ew_L q' m') → post (((ew_xl g f n).foldl (ew_fs 2 (fun z => ew_dc (z ≤ W')) g (ew_L f n)) (P, R)).2.2.2.2.2.2 - R.2.2.2.2.2) (nI g, nI lt, nI W', nI k, D, ((ew_xl g f n).foldl (ew_fs 2 (fun z => ew_dc (z ≤ W')) g (ew_L f n)) (P, R)).2.2.2.2.2.2, nI m', ek, et, ev, la, mk, pk, ps, pe, pv, ((ew_xl g f n).foldl (ew_fs 2 (fun z => ew_dc (z ≤ W')) g (ew_L f n)) (P, R)).2.1, ((ew_xl g f n).foldl (ew_fs 2 (fun z => ew_dc (z ≤ W')) g (ew_L f n)) (P, R)).2.2.1, ((ew_xl g f n).foldl (ew_fs 2 (fun z => ew_dc (z ≤ W')) g (ew_L f n)) (P, R)).2.2.2.1, ((ew_xl g f n).foldl (ew_fs 2 (fun z => ew_dc (z ≤ W')) g (ew_L f n)) (P, R)).2.2.2.2.1, ((ew_xl g f n).foldl (ew_fs 2 (fun z => ew_dc (z ≤ W')) g (ew_L f n)) (P, R)).2.2.2.2.2.1)) : wpY_advance post (nI g, nI lt, nI W, nI n, D, R.2.2.2.2.2, nI m, ek, et, ev, la, mk, pk, ps, pe, pv, R.1, R.2.1, R.2.2.1, R.2.2.2.1, R.2.2.2.2.1) (nI W') := by
  have hok' : ew_ok g lt W' n e := ⟨hok.1, hok.2.1, hok.2.2.1, hW2, hok.2.2.2.2⟩
  have h4 := hok.2.2.2.1
  refine br_f (nI_ge hW (by omega)) (br_t (nI_le (b := 2100000) hW2 (by omega)) (ya_sc H ?_))
  rw [ew_cnt hp hs H.1.1 H.2.2]
  refine ⟨(ew_xl g f n).length + 1, yt_adv0 H hok' hp hs (st0 := (P, R)) HG (fun m q pk ps pe pv h1 h2 => ⟨n + 1, ?_⟩) (ew_xl g f n).length 0 m q pk ps pe pv (by omega) HP hP⟩
  refine yt_82 H hok' (fun mk hmk => ⟨n + 1, ?_⟩) n 0 mk (by omega) (fun j a => by omega)
  refine yt_135 H hmk (P1 := ((ew_xl g f n).foldl (ew_fs 2 (fun z => ew_dc (z ≤ W')) g (ew_L f n)) (P, R)).1) (fun m q pk ps pe pv h3 h4 => ⟨n + 1, ?_⟩) n 0 m q pk ps pe pv (by omega) h1 (by rw [ew_FY_0]; exact h2)
  exact yt_184 (P1 := P) H.1 hmk (fun k c la lb ek et ev h5 h6 => K k c la lb ek et ev mk m q pk ps pe pv h5 h6 h3 h4) n 0 0 ek et ev e (by omega) (Nat.le_refl _) (fun j a => by omega) (fun j _ a => H.1.2.2.2.1 j a) rfl
/-- a pane's field -/
def ew_pf (y : ew_P) (z : Int32) : Int32 := if z = 1 then nI y.1 else if z = 2 then nI y.2.1 else if z = 3 then nI y.2.2.1 else if z = 4 then y.2.2.2 else -1
theorem yq_30 (H : ew_pa m q pk ps pe pv) {P : List ew_P} (hP : P.Perm (ew_L q m)) (hs : P.Pairwise ew_pl) (hi : i < m) (hk : k < m) {z : Int32} {post J : Int32 → Prop} (K : ∀ y, P[i]? = some y → post (ew_pf y z)) (KJ : ew_ct (fun j => ew_dc (ew_pl (q j) (q k))) m ≠ i → J (nI (k + 1))) :
    ∀ d x, x + d = m → wY_paneField_30 post J (nI i) z (nI k) (nI g) l w (nI n) D c (nI m) ek et ev la mk pk ps pe pv r1 r2 r3 r4 r5 (d + 1) (nI (ew_ct (fun j => ew_dc (ew_pl (q j) (q k))) x)) (nI x) := by
  have hm := H.1
  have vk : vp_in (nI k) 32 := vp_in_nI (by omega) (by omega)
  have ck : (nI k).toNatClampNeg = k := nI_clamp (by omega)
  have ak := (H.2 k hk).1
  obtain ⟨k1, k2, k3⟩ := (H.2 k hk).2
  intro d
  induction d with
  | zero =>
    intro x hx
    have hx' : x = m := by omega
    subst hx'
    have b1 := ew_ct_le (fun j => ew_dc (ew_pl (q j) (q k))) x
    refine br_t (nI_le (by omega) (by omega)) (ek_if (nI_eq (by omega) (by omega)) (fun u => ?_) (fun u => nm_r (nI_1 k) (KJ u)))
    have hy := K (q k) (ew_prankx hP hs hk u)
    rw [ck, ak.1, ak.2.1, ak.2.2.1, ak.2.2.2]
    unfold ew_pf at hy
    refine br_c (fun c1 => ⟨vk, ?_⟩) (fun c1 => br_c (fun c2 => ⟨vk, ?_⟩) (fun c2 => br_c (fun c3 => ⟨vk, ?_⟩) (fun c3 => br_c (fun c4 => ⟨vk, ?_⟩) (fun c4 => ?_))))
    · rw [if_pos c1] at hy
      exact hy
    · rw [if_neg c1, if_pos c2] at hy
      exact hy
    · rw [if_neg c1, if_neg c2, if_pos c3] at hy
      exact hy
    · rw [if_neg c1, if_neg c2, if_neg c3, if_pos c4] at hy
      exact hy
    · rw [if_neg c1, if_neg c2, if_neg c3, if_neg c4] at hy
      exact hy
  | succ d ih =>
    intro x hx
    have hx1 : x < m := by omega
    have vx : vp_in (nI x) 32 := vp_in_nI (by omega) (by omega)
    have cx : (nI x).toNatClampNeg = x := nI_clamp (by omega)
    have ax := (H.2 x hx1).1
    obtain ⟨x1, x2, x3⟩ := (H.2 x hx1).2
    have IH := ih (x + 1) (by omega)
    rw [ew_ct] at IH
    have plI : ew_pl (q x) (q k) ↔ ((q x).1 < (q k).1 ∨ ((q x).1 = (q k).1 ∧ (q x).2.1 < (q k).2.1)) := Iff.rfl
    refine br_f (nI_ge (by omega) (by omega)) ⟨vx, vk, ?_⟩
    rw [ck, cx, ak.1, ak.2.1, ax.1, ax.2.1]
    refine ek_if (nI_ltI (by omega) (by omega)) (fun u => nm_r (nI_1 _) (nm_r (nI_1 x) ?_)) (fun u => ⟨vx, vk, ek_if (nI_eq (by omega) (by omega)) (fun u2 => ⟨vx, vk, ek_if (nI_leI (by omega) (by omega)) (fun u3 => nm_r (nI_1 x) ?_) (fun u3 => nm_r (nI_1 _) (nm_r (nI_1 x) ?_))⟩) (fun u2 => nm_r (nI_1 x) ?_)⟩)
    · rw [if_pos (ew_dcI.mpr (plI.mpr (by omega)))] at IH
      exact IH
    · rw [if_neg (fun v => by have := plI.mp (ew_dcI.mp v); omega)] at IH
      exact IH
    · rw [if_pos (ew_dcI.mpr (plI.mpr (by omega)))] at IH
      exact IH
    · rw [if_neg (fun v => by have := plI.mp (ew_dcI.mp v); omega)] at IH
      exact IH
theorem yq_16 (H : ew_pa m q pk ps pe pv) {P : List ew_P} (hP : P.Perm (ew_L q m)) (hs : P.Pairwise ew_pl) (hi : i < m) {z : Int32} {post : Int32 → Prop} (K : ∀ y, P[i]? = some y → post (ew_pf y z)) :
    ∀ d k, k + d = m → (∀ j, j < k → ew_ct (fun x => ew_dc (ew_pl (q x) (q j))) m ≠ i) → wY_paneField_16 post (nI i) z (nI g) l w (nI n) D c (nI m) ek et ev la mk pk ps pe pv r1 r2 r3 r4 r5 (d + 1) (nI k) := by
  have hm := H.1
  intro d
  induction d with
  | zero =>
    intro k hk hno
    obtain ⟨y, hy, he⟩ := ew_ppx hP hs hi
    exact absurd he (hno y (by omega))
  | succ d ih =>
    intro k hk hno
    refine br_f (nI_ge (by omega) (by omega)) ⟨m + 1, yq_30 H hP hs hi (by omega) K (fun u => ih (k + 1) (by omega) (fun j a => ?_)) m 0 (by omega)⟩
    by_cases f : j = k
    · rw [f]
      exact u
    · exact hno j (by omega)
theorem yq_pane (H : ew_pa m q pk ps pe pv) {P : List ew_P} (hP : P.Perm (ew_L q m)) (hs : P.Pairwise ew_pl) (hi : i < m) {z : Int32} {post : Int32 → Prop} (K : ∀ y, P[i]? = some y → post (ew_pf y z)) : wpY_paneField post (nI g, l, w, nI n, D, c, nI m, ek, et, ev, la, mk, pk, ps, pe, pv, r1, r2, r3, r4, r5) (nI i) z := by
  have hm := H.1
  exact br_f (nI_pos (by omega)) (br_t (nI_lt hi (by omega)) ⟨m + 1, yq_16 H hP hs hi K m 0 (by omega) (fun j a => by omega)⟩)
end
