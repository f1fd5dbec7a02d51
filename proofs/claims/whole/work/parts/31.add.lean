/-! addEvent, and X's fields of sessions and panes -/
section
variable {g n m i j x k t lt W b : Nat} {l w D c v : Int32} {ak aT av ek et ev la mk pk ps pe pv r1 r2 r3 r4 r5 : Nat → Int32} {e f : Nat → ew_E} {lb : Nat → Nat} {p q : Nat → ew_P} {R : ew_R}
theorem xa_add (hok : ew_ok g lt W n e) (Hs : ew_srt e n) (hE : ew_aE n e ak aT av) (HP : ew_pa m p pk ps pe pv) (HG : ew_G g (ew_L e n) (ew_L p m)) (hk : k ≤ 7) (ht : t ≤ 1000000) (hv1 : ¬ v < -1000) (hv2 : v ≤ 1000) (hW : W ≤ t + lt) (hn : n < 32) {post : Int32 → SX → Prop}
    (K : ∀ b ak aT av m' p' R' pk ps pe pv, b ≤ n → ew_srt (ew_put e (k, t, v) b) (n + 1) → ew_aE (n + 1) (ew_put e (k, t, v) b) ak aT av → ew_pa m' p' pk ps pe pv → (ew_L p' m', R') = ew_fs 3 (fun z => ew_dc (z ≤ W)) g (ew_L (ew_put e (k, t, v) b) (n + 1)) (ew_L p m, R) (ew_ks g (ew_put e (k, t, v) b) (n + 1) b) → post (R'.2.2.2.2.2 - R.2.2.2.2.2) (nI g, nI lt, nI W, D, nI (n + 1), nI m', R'.2.2.2.2.2, ak, aT, av, pk, ps, pe, pv, R'.1, R'.2.1, R'.2.2.1, R'.2.2.2.1, R'.2.2.2.2.1)) : wpX_addEvent post (nI g, nI lt, nI W, D, nI n, nI m, R.2.2.2.2.2, ak, aT, av, pk, ps, pe, pv, R.1, R.2.1, R.2.2.1, R.2.2.2.1, R.2.2.2.2.1) (nI k) (nI t) v := by
  obtain ⟨o1, o2, o3, o4, o5, o6⟩ := id hok
  have H : ew_ev g n e ak aT av := ⟨o1, o2, o5, hE, o6⟩
  refine br_f (nI_pos (by omega)) (br_t (nI_le (b := 7) hk (by omega)) (br_f (nI_pos (by omega)) (br_t (nI_le (b := 1000000) ht (by omega)) (br_f hv1 (br_t hv2 (br_t ?_ (br_t (nI_lt (b := 32) hn (by omega)) ?_)))))))
  · rw [nI_add]
    exact nI_le hW (by omega)
  · refine xe_ins (s := (k, t, v)) H hn ⟨hk, ht⟩ (fun b ak aT av hb h1 h2 h3 => ?_)
    have Hs' : ew_srt (ew_put e (k, t, v) b) (n + 1) := ew_put_s Hs hb h1 (by
      rcases h2 with h2 | h2
      · exact Or.inl h2
      · refine Or.inr ?_
        unfold ew_ela at h2
        dsimp only at h2
        omega)
    have hb' : ∀ i, i < n + 1 → (ew_put e (k, t, v) b i).1 ≤ 7 ∧ (ew_put e (k, t, v) b i).2.1 ≤ 1000000 := by
      intro i hi
      by_cases a : i < b
      · rw [ew_put_a a]
        exact o6 i (by omega)
      · by_cases d : i = b
        · rw [d, ew_put_b]
          exact ⟨hk, ht⟩
        · rw [ew_put_c (show b < i by omega)]
          exact o6 (i - 1) (by omega)
    have hok' : ew_ok g lt W (n + 1) (ew_put e (k, t, v) b) := ⟨o1, o2, o3, o4, by omega, hb'⟩
    have H' : ew_ev g (n + 1) (ew_put e (k, t, v) b) ak aT av := ⟨o1, o2, by omega, h3, hb'⟩
    have HG' : ew_G g (ew_L (ew_put e (k, t, v) b) (n + 1)) (ew_L p m) := ew_add_G (fun x hx => (ew_put_p e (k, t, v) b n hb).mem_iff.mpr (List.mem_cons_of_mem _ hx)) HG
    refine xa_first H' (show b < n + 1 by omega) (fun i hi ho hno => ?_)
    have hks := ew_ksX Hs' (show b < n + 1 by omega) hi ho hno
    have K' := K b ak aT av
    rw [hks] at K'
    obtain ⟨q0, B⟩ := ew_bx (g := g) (e := ew_put e (k, t, v) b) (show i < n + 1 by omega)
    obtain ⟨S1, _⟩ := ew_sX Hs' o1 ho B
    have O := ew_opO Hs' (show i < n + 1 by omega) ho
    have bs := ew_okS (ks := ((ew_put e (k, t, v) b i).1, (ew_put e (k, t, v) b i).2.1)) hok' O
    have hend : (ew_put e (k, t, v) b (q0 - 1)).2.1 + g = (ew_ss g (ew_L (ew_put e (k, t, v) b) (n + 1)) ((ew_put e (k, t, v) b i).1, (ew_put e (k, t, v) b i).2.1)).2.2.1 := by rw [S1]
    refine xa_end H' B ?_
    rw [hend]
    refine ek_if (nI_ltI (by omega) (by omega)) (fun z => K' m p R pk ps pe pv hb Hs' h3 HP ?_) (fun z => xa_fire H' Hs' HP HG' (by omega) ho (fun k2 pk ps pe pv q' R' g1 g2 => K' k2 q' R' pk ps pe pv hb Hs' h3 g1 ?_))
    · rw [ew_fs_n]
      intro z2
      have := ew_dcI.mp z2
      omega
    · rw [g2, ew_fs_y (t := fun z => ew_dc (z ≤ W)) (ew_dcI.mpr (by omega))]
theorem yt_add (H : ew_yv g n f lb ek et ev la) (hok : ew_ok g lt W n f) (HP : ew_pa m q pk ps pe pv) {P : List ew_P} (hP : P.Perm (ew_L q m)) (HG : ew_G g (ew_L f n) P) (hk : k ≤ 7) (ht : t ≤ 1000000) (hv1 : ¬ v < -1000) (hv2 : v ≤ 1000) (hW : W ≤ t + lt) (hn : n < 32) {post : Int32 → SY → Prop}
    (K : ∀ f' ek et ev la lb m' q' pk ps pe pv, ew_L f' (n + 1) = ew_L f n ++ [(k, t, v)] → f' n = (k, t, v) → ew_yv g (n + 1) f' lb ek et ev la → ew_pa m' q' pk ps pe pv → (ew_fs 3 (fun z => ew_dc (z ≤ W)) g (ew_L f' (n + 1)) (P, R) (ew_ks g f' (n + 1) n)).1.Perm (ew_L q' m') → post ((ew_fs 3 (fun z => ew_dc (z ≤ W)) g (ew_L f' (n + 1)) (P, R) (ew_ks g f' (n + 1) n)).2.2.2.2.2.2 - R.2.2.2.2.2) (nI g, nI lt, nI W, nI (n + 1), D, (ew_fs 3 (fun z => ew_dc (z ≤ W)) g (ew_L f' (n + 1)) (P, R) (ew_ks g f' (n + 1) n)).2.2.2.2.2.2, nI m', ek, et, ev, la, mk, pk, ps, pe, pv, (ew_fs 3 (fun z => ew_dc (z ≤ W)) g (ew_L f' (n + 1)) (P, R) (ew_ks g f' (n + 1) n)).2.1, (ew_fs 3 (fun z => ew_dc (z ≤ W)) g (ew_L f' (n + 1)) (P, R) (ew_ks g f' (n + 1) n)).2.2.1, (ew_fs 3 (fun z => ew_dc (z ≤ W)) g (ew_L f' (n + 1)) (P, R) (ew_ks g f' (n + 1) n)).2.2.2.1, (ew_fs 3 (fun z => ew_dc (z ≤ W)) g (ew_L f' (n + 1)) (P, R) (ew_ks g f' (n + 1) n)).2.2.2.2.1, (ew_fs 3 (fun z => ew_dc (z ≤ W)) g (ew_L f' (n + 1)) (P, R) (ew_ks g f' (n + 1) n)).2.2.2.2.2.1)) : wpY_addEvent post (nI g, nI lt, nI W, nI n, D, R.2.2.2.2.2, nI m, ek, et, ev, la, mk, pk, ps, pe, pv, R.1, R.2.1, R.2.2.1, R.2.2.2.1, R.2.2.2.2.1) (nI k) (nI t) v := by
  obtain ⟨o1, o2, o3, o4, o5, o6⟩ := id hok
  obtain ⟨⟨hg, hg2, hn0, hE, hb⟩, hl, hlb⟩ := id H
  have vn : vp_in (nI n) 32 := vp_in_nI (by omega) (by omega)
  have cn : (nI n).toNatClampNeg = n := nI_clamp (by omega)
  refine br_f (nI_pos (by omega)) (br_t (nI_le (b := 7) hk (by omega)) (br_f (nI_pos (by omega)) (br_t (nI_le (b := 1000000) ht (by omega)) (br_f hv1 (br_t hv2 (br_t ?_ (br_t (nI_lt (b := 32) hn (by omega)) ⟨vn, nm_r (e' := upd ek n (nI k)) (by rw [cn]) ⟨vn, nm_r (e' := upd et n (nI t)) (by rw [cn]) ⟨vn, nm_r (e' := upd ev n v) (by rw [cn]) (nm_r (nI_1 n) ?_)⟩⟩⟩)))))))
  · rw [nI_add]
    exact nI_le hW (by omega)
  · have hn1 : (fun j => if j = n then (k, t, v) else f j) n = (k, t, v) := if_pos rfl
    have hL : ew_L (fun j => if j = n then (k, t, v) else f j) (n + 1) = ew_L f n ++ [(k, t, v)] := by
      have e1 : ew_L (fun j => if j = n then (k, t, v) else f j) n = ew_L f n := ew_Lc (fun j hj => if_neg (by omega))
      rw [ew_Ls, e1, if_pos rfl]
    have H' : ew_ev g (n + 1) (fun j => if j = n then (k, t, v) else f j) (upd ek n (nI k)) (upd et n (nI t)) (upd ev n v) := by
      refine ⟨hg, hg2, by omega, fun j hj => ?_, fun j hj => ?_⟩
      · dsimp only
        by_cases u : j = n
        · rw [u, if_pos rfl]
          exact ew_ae_s rfl rfl rfl
        · rw [if_neg u]
          exact ew_ae_n u (hE j (by omega))
      · dsimp only
        by_cases u : j = n
        · rw [if_pos u]
          exact ⟨hk, ht⟩
        · rw [if_neg u]
          exact hb j (by omega)
    generalize hf : (fun j => if j = n then (k, t, v) else f j) = f' at hn1 hL H'
    have hok' : ew_ok g lt W (n + 1) f' := ⟨o1, o2, o3, o4, by omega, H'.2.2.2.2⟩
    have HG' : ew_G g (ew_L f' (n + 1)) P := ew_add_G (fun x hx => by rw [hL]; exact List.mem_append.mpr (Or.inl hx)) HG
    refine yb_rel H' (fun la lb g1 g2 => ?_)
    have e1 : nI (n + 1) - 1 = nI n := nI_pred n
    have Y' : ew_yv g (n + 1) f' lb (upd ek n (nI k)) (upd et n (nI t)) (upd ev n v) la := ⟨H', g1, g2⟩
    have b2 := g2 n (by omega)
    have hks : ew_ks g f' (n + 1) (lb n) = ew_ks g f' (n + 1) n := ((ew_ks_i (by omega) b2.1).mpr b2.2.1).symm
    have bs := ew_okS hok' (ew_ks_O (g := g) (e := f') (show n < n + 1 by omega))
    have K' := K f' (upd ek n (nI k)) (upd et n (nI t)) (upd ev n v) la lb
    refine ⟨by rw [e1]; exact vn, nm_r (e' := nI (lb n)) (by rw [e1, cn]; exact g1 n (by omega)) (ya_en Y' b2.1 (ew_lab_i g2 (by omega)) ?_)⟩
    rw [hks]
    refine ek_if (nI_ltI (by omega) (by omega)) (fun z => ?_) (fun z => ya_fire Y' HP hP HG' b2.1 (ew_lab_i g2 (by omega)) (fun k2 pk ps pe pv q' h1 h2 => ?_))
    · have K2 := K' m q pk ps pe pv hL hn1 Y' HP
      rw [ew_fs_n (fun u => by have := ew_dcI.mp u; omega)] at K2
      exact K2 hP
    · have K2 := K' k2 q' pk ps pe pv hL hn1 Y' h1
      rw [ew_fs_y (t := fun z => ew_dc (z ≤ W)) (ew_dcI.mpr (by omega)), ← hks] at K2
      exact K2 h2
theorem xq_pane (H : ew_pa m p pk ps pe pv) (hi : i < m) {z : Int32} {post : Int32 → Prop} (hp : post (ew_pf (p i) z)) : wpX_paneField post (nI g, l, w, D, nI n, nI m, c, ak, aT, av, pk, ps, pe, pv, r1, r2, r3, r4, r5) (nI i) z := by
  have hm := H.1
  have vi : vp_in (nI i) 32 := vp_in_nI (by omega) (by omega)
  have ci : (nI i).toNatClampNeg = i := nI_clamp (by omega)
  have ai := (H.2 i hi).1
  refine br_f (nI_pos (by omega)) (br_t (nI_lt hi (by omega)) ?_)
  rw [ci, ai.1, ai.2.1, ai.2.2.1, ai.2.2.2]
  unfold ew_pf at hp
  by_cases c1 : z = 1
  · rw [if_pos c1] at hp
    subst c1
    exact br_f (by decide) (br_f (by decide) (br_t rfl ⟨vi, hp⟩))
  · by_cases c2 : z = 2
    · rw [if_neg c1, if_pos c2] at hp
      subst c2
      exact br_f (by decide) (br_f (by decide) (br_f c1 (br_t rfl ⟨vi, hp⟩)))
    · by_cases c3 : z = 3
      · rw [if_neg c1, if_neg c2, if_pos c3] at hp
        subst c3
        exact br_f (by decide) (br_f (by decide) (br_f c1 (br_f c2 (br_t rfl ⟨vi, hp⟩))))
      · by_cases c4 : z = 4
        · rw [if_neg c1, if_neg c2, if_neg c3, if_pos c4] at hp
          subst c4
          exact br_f (by decide) (br_f (by decide) (br_f c1 (br_f c2 (br_f c3 (br_t rfl ⟨vi, hp⟩)))))
        · rw [if_neg c1, if_neg c2, if_neg c3, if_neg c4] at hp
          exact br_c (fun _ => hp) (fun _ => br_c (fun _ => hp) (fun _ => br_f c1 (br_f c2 (br_f c3 (br_f c4 trivial)))))
/-- a session's field -/
def ew_sf (y : ew_P) (cn : Nat) (z : Int32) : Int32 := if z = 1 then nI y.1 else if z = 2 then nI y.2.1 else if z = 3 then nI y.2.2.1 else if z = 4 then y.2.2.2 else if z = 5 then nI cn else -1
theorem ew_xl_i : ∀ n j, j < (ew_xl g e n).length → ∃ i, i < n ∧ ew_op g e i ∧ (ew_xl g e i).length = j := by
  intro n
  induction n with
  | zero => intro j h; exact absurd h (Nat.not_lt_zero j)
  | succ n ih =>
    intro j h
    by_cases c : ew_op g e n
    · rw [ew_xl_y c, List.length_append] at h
      by_cases d : j < (ew_xl g e n).length
      · obtain ⟨i, h1, h2, h3⟩ := ih j d
        exact ⟨i, by omega, h2, h3⟩
      · refine ⟨n, by omega, c, ?_⟩
        have h' : j < (ew_xl g e n).length + 1 := h
        omega
    · rw [ew_xl_n c] at h
      obtain ⟨i, h1, h2, h3⟩ := ih j h
      exact ⟨i, by omega, h2, h3⟩
theorem xq_sess (H : ew_ev g n e ak aT av) (Hs : ew_srt e n) {y z : Int32} {post : Int32 → Prop}
    (h1 : ∀ x ks, y = nI x → x < (ew_xl g e n).length → (ew_xl g e n)[x]? = some ks → post (ew_sf (ew_ss g (ew_L e n) ks) (ew_sc g (ew_L e n) ks) z)) (h0 : (∀ x, x < (ew_xl g e n).length → y ≠ nI x) → post (-1)) : wpX_sessionField post (nI g, l, w, D, nI n, nI m, c, ak, aT, av, pk, ps, pe, pv, r1, r2, r3, r4, r5) y z := by
  obtain ⟨o1, o2, o3, hE, o6⟩ := id H
  refine xa_at H (fun i hi ho hy => br_t (nI_lt hi (by omega)) ?_) (fun hno => br_f (nI_nlt (Nat.le_refl n) (by omega)) (h0 (fun x hx hy => ?_)))
  · have vi : vp_in (nI i) 32 := vp_in_nI (by omega) (by omega)
    have ci : (nI i).toNatClampNeg = i := nI_clamp (by omega)
    obtain ⟨q0, B⟩ := ew_bx (g := g) (e := e) hi
    have B1 := B.1
    obtain ⟨S1, S2⟩ := ew_sX Hs o1 ho B
    have hg := ew_xl_g ho (n - (i + 1))
    rw [show i + 1 + (n - (i + 1)) = n by omega] at hg
    have hlt := (List.getElem?_eq_some_iff.mp hg).1
    have hp := h1 _ _ hy hlt hg
    rw [S1, S2] at hp
    unfold ew_sf at hp
    dsimp only at hp
    by_cases c1 : z = 1
    · rw [if_pos c1] at hp
      subst c1
      exact br_f (by decide) (br_f (by decide) (br_t rfl ⟨vi, by rw [ci, (hE i hi).1]; exact hp⟩))
    · by_cases c2 : z = 2
      · rw [if_neg c1, if_pos c2] at hp
        subst c2
        exact br_f (by decide) (br_f (by decide) (br_f c1 (br_t rfl ⟨vi, by rw [ci, (hE i hi).2.1]; exact hp⟩)))
      · by_cases c3 : z = 3
        · rw [if_neg c1, if_neg c2, if_pos c3] at hp
          subst c3
          exact br_f (by decide) (br_f (by decide) (br_f c1 (br_f c2 (br_t rfl (xa_end H B hp)))))
        · by_cases c4 : z = 4
          · rw [if_neg c1, if_neg c2, if_neg c3, if_pos c4] at hp
            subst c4
            exact br_f (by decide) (br_f (by decide) (br_f c1 (br_f c2 (br_f c3 (br_t rfl (xa_sum H B hp))))))
          · by_cases c5 : z = 5
            · rw [if_neg c1, if_neg c2, if_neg c3, if_neg c4, if_pos c5] at hp
              subst c5
              exact br_f (by decide) (br_f (by decide) (br_f c1 (br_f c2 (br_f c3 (br_f c4 (br_t rfl (xa_past H B (by rw [pk_sub (by omega)]; exact hp))))))))
            · rw [if_neg c1, if_neg c2, if_neg c3, if_neg c4, if_neg c5] at hp
              exact br_c (fun _ => hp) (fun _ => br_c (fun _ => hp) (fun _ => br_f c1 (br_f c2 (br_f c3 (br_f c4 (br_f c5 trivial))))))
  · obtain ⟨i, a1, a2, a3⟩ := ew_xl_i n x hx
    exact hno i a1 a2 (by rw [a3]; exact hy)
theorem yq_sess (H : ew_yv g n e lb ek et ev la) (hp : (ew_L f n).Perm (ew_L e n)) (hs : ew_srt f n) {x : Nat} {z : Int32} {ks : Nat × Nat} (hx : x < (ew_xl g f n).length) (hks : (ew_xl g f n)[x]? = some ks) {post : Int32 → Prop} (h : post (ew_sf (ew_ss g (ew_L f n) ks) (ew_sc g (ew_L f n) ks) z)) : wpY_sessionField post (nI g, l, w, nI n, D, c, nI m, ek, et, ev, la, mk, pk, ps, pe, pv, r1, r2, r3, r4, r5) (nI x) z := by
  obtain ⟨⟨hg, hg2, hn, hE, hb⟩, hl, hlb⟩ := id H
  have hle : (ew_xl g f n).length ≤ n := by
    rw [ew_xl_l]
    exact ew_ct_le _ n
  refine br_f (nI_pos (by omega)) (ya_sc H ?_)
  rw [ew_cnt hp hs hg hlb]
  refine br_t (nI_lt hx (by omega)) (ya_rp H hp hs hx (fun r a b hr => br_t (nI_pos' (by omega)) ?_))
  have e1 : ks = ew_ks g e n r := Option.some.inj (hks.symm.trans hr)
  rw [e1, ew_ss_p hp, ew_sc_p hp] at h
  have vr : vp_in (nI r) 32 := vp_in_nI (by omega) (by omega)
  have cr : (nI r).toNatClampNeg = r := nI_clamp (by omega)
  unfold ew_sf at h
  refine br_c (fun c1 => ⟨vr, ?_⟩) (fun c1 => br_c (fun c2 => ya_st H a b ?_) (fun c2 => br_c (fun c3 => ya_en H a b ?_) (fun c3 => br_c (fun c4 => ya_sm H a b ?_) (fun c4 => br_c (fun c5 => ya_ct H a b ?_) (fun c5 => ?_)))))
  · rw [if_pos c1] at h
    rw [cr, (hE r a).1]
    exact h
  · rw [if_neg c1, if_pos c2] at h
    exact h
  · rw [if_neg c1, if_neg c2, if_pos c3] at h
    exact h
  · rw [if_neg c1, if_neg c2, if_neg c3, if_pos c4] at h
    exact h
  · rw [if_neg c1, if_neg c2, if_neg c3, if_neg c4, if_pos c5] at h
    exact h
  · rw [if_neg c1, if_neg c2, if_neg c3, if_neg c4, if_neg c5] at h
    exact h
end
