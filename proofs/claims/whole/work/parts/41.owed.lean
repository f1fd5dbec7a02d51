/-! the relation, and what is owed -/
section
theorem ew_srtL {e : Nat → ew_E} {n : Nat} : ew_srt e n ↔ (ew_L e n).Pairwise (fun a b => a.1 < b.1 ∨ (a.1 = b.1 ∧ a.2.1 ≤ b.2.1)) := by
  rw [ew_Lp]
  constructor
  · intro h i j hij hj
    exact h i j (by omega) hj
  · intro h i j hij hj
    by_cases c : i = j
    · subst c
      exact Or.inr ⟨rfl, Nat.le_refl _⟩
    · exact h i j (by omega) hj
end
/-- one picture of both states: X holds the events e sorted and the panes p sorted; Y holds the same events f and the same panes q in an order of its own, and labels lb; the records are the same -/
def i_Rel (_ : Nat) (u : SX) (v : SY) : Prop := ∃ (g lt W n m m2 : Nat) (D : Int32) (e f : Nat → ew_E) (lb : Nat → Nat) (p q : Nat → ew_P) (R : ew_R) (ak aT av pk ps pe pv ek et ev la mk pk' ps' pe' pv' : Nat → Int32),
  u = (nI g, nI lt, nI W, D, nI n, nI m, R.2.2.2.2.2, ak, aT, av, pk, ps, pe, pv, R.1, R.2.1, R.2.2.1, R.2.2.2.1, R.2.2.2.2.1) ∧ v = (nI g, nI lt, nI W, nI n, D, R.2.2.2.2.2, nI m2, ek, et, ev, la, mk, pk', ps', pe', pv', R.1, R.2.1, R.2.2.1, R.2.2.2.1, R.2.2.2.2.1) ∧ ew_ok g lt W n e ∧ ew_srt e n ∧ ew_aE n e ak aT av ∧ ew_pa m p pk ps pe pv ∧ ew_G g (ew_L e n) (ew_L p m) ∧ ew_yv g n f lb ek et ev la ∧ (ew_L e n).Perm (ew_L f n) ∧ ew_pa m2 q pk' ps' pe' pv' ∧ (ew_L p m).Perm (ew_L q m2)
theorem i_up {k : Nat} {u : SX} {v : SY} (h : i_Rel k u v) : i_Rel (k + 4) u v := h
theorem ew_cg (x : Int32) : ∃ g, 0 < g ∧ g ≤ 1000 ∧ ∀ P : Int32 → Prop, P (nI g) → ((1 ≤ x → ((x ≤ 1000 → P x) ∧ (¬ x ≤ 1000 → P 1000))) ∧ (¬ 1 ≤ x → P 1)) := by
  by_cases h1 : 1 ≤ x
  · by_cases h2 : x ≤ 1000
    · obtain ⟨j, hj, rfl⟩ := nI_of2 (M := 1000) (n := 1000) (by decide) (Int32.not_lt.mpr (Int32.le_trans (by decide) h1)) h2
      have h3 : 1 ≤ j := (nI_leI (a := 1) (by omega) (by omega)).mp h1
      exact ⟨j, by omega, hj, fun P hP => br_t h1 (br_t h2 hP)⟩
    · exact ⟨1000, by omega, by omega, fun P hP => br_t h1 (br_f h2 hP)⟩
  · exact ⟨1, by omega, by omega, fun P hP => br_f h1 hP⟩
theorem ew_cl0 (x : Int32) : ∃ g, g ≤ 1000 ∧ ∀ P : Int32 → Prop, P (nI g) → ((0 ≤ x → ((x ≤ 1000 → P x) ∧ (¬ x ≤ 1000 → P 1000))) ∧ (¬ 0 ≤ x → P 0)) := by
  by_cases h1 : 0 ≤ x
  · by_cases h2 : x ≤ 1000
    · obtain ⟨j, hj, rfl⟩ := nI_of2 (M := 1000) (n := 1000) (by decide) (Int32.not_lt.mpr h1) h2
      exact ⟨j, hj, fun P hP => br_t h1 (br_t h2 hP)⟩
    · exact ⟨1000, by omega, fun P hP => br_t h1 (br_f h2 hP)⟩
  · exact ⟨0, by omega, fun P hP => br_f h1 hP⟩
theorem i_vc0 (k0 : Int32) (k1 : Int32) : wpX_init (fun u => wpY_init (fun v => i_Rel 2 u v) k0 k1) k0 k1 := by
  obtain ⟨g, g1, g2, G⟩ := ew_cg k0
  obtain ⟨t, t1, T⟩ := ew_cl0 k1
  have z : ∀ {P : Nat → Prop} i, i < 0 → P i := fun i h => absurd h (Nat.not_lt_zero i)
  have Y1 : ∀ (pst : SY → Prop), pst (nI g, nI t, 0, 0, 0, 0, 0, (fun _ => 0), (fun _ => 0), (fun _ => 0), (fun _ => 0), (fun _ => 0), (fun _ => 0), (fun _ => 0), (fun _ => 0), (fun _ => 0), (fun _ => 0), (fun _ => 0), (fun _ => 0), (fun _ => 0), (fun _ => 0)) → wpY_init pst k0 k1 := fun pst h => G (fun r => wY_init_140 pst k1 r 0 0 0 0 0 0 0 (fun _ => 0) (fun _ => 0) (fun _ => 0) (fun _ => 0) (fun _ => 0) (fun _ => 0) (fun _ => 0) (fun _ => 0) (fun _ => 0) (fun _ => 0) (fun _ => 0) (fun _ => 0) (fun _ => 0) (fun _ => 0)) (T (fun r => pst (nI g, r, 0, 0, 0, 0, 0, (fun _ => 0), (fun _ => 0), (fun _ => 0), (fun _ => 0), (fun _ => 0), (fun _ => 0), (fun _ => 0), (fun _ => 0), (fun _ => 0), (fun _ => 0), (fun _ => 0), (fun _ => 0), (fun _ => 0), (fun _ => 0))) h)
  have X1 : ∀ (pst : SX → Prop), pst (nI g, nI t, 0, 0, 0, 0, 0, (fun _ => 0), (fun _ => 0), (fun _ => 0), (fun _ => 0), (fun _ => 0), (fun _ => 0), (fun _ => 0), (fun _ => 0), (fun _ => 0), (fun _ => 0), (fun _ => 0), (fun _ => 0)) → wpX_init pst k0 k1 := fun pst h => G (fun r1 => wpX_clamp (fun r2 => pst (r1, r2, 0, 0, 0, 0, 0, (fun _ => 0), (fun _ => 0), (fun _ => 0), (fun _ => 0), (fun _ => 0), (fun _ => 0), (fun _ => 0), (fun _ => 0), (fun _ => 0), (fun _ => 0), (fun _ => 0), (fun _ => 0))) k1 0 1000) (T (fun r2 => pst (nI g, r2, 0, 0, 0, 0, 0, (fun _ => 0), (fun _ => 0), (fun _ => 0), (fun _ => 0), (fun _ => 0), (fun _ => 0), (fun _ => 0), (fun _ => 0), (fun _ => 0), (fun _ => 0), (fun _ => 0), (fun _ => 0))) h)
  refine X1 _ (Y1 _ ?_)
  refine ⟨g, t, 0, 0, 0, 0, 0, fun _ => (0, 0, 0), fun _ => (0, 0, 0), fun _ => 0, fun _ => (0, 0, 0, 0), fun _ => (0, 0, 0, 0), ((fun _ => 0), (fun _ => 0), (fun _ => 0), (fun _ => 0), (fun _ => 0), 0), (fun _ => 0), (fun _ => 0), (fun _ => 0), (fun _ => 0), (fun _ => 0), (fun _ => 0), (fun _ => 0), (fun _ => 0), (fun _ => 0), (fun _ => 0), (fun _ => 0), (fun _ => 0), (fun _ => 0), (fun _ => 0), (fun _ => 0), (fun _ => 0), rfl, rfl, ⟨g1, g2, t1, by omega, by omega, z⟩, fun i j _ h => absurd h (Nat.not_lt_zero j), z, ⟨by omega, z⟩, ⟨List.Pairwise.nil, fun p hp => absurd hp List.not_mem_nil, Nat.zero_le _⟩, ⟨⟨g1, g2, by omega, z, z⟩, z, z⟩, List.Perm.refl _, ⟨by omega, z⟩, List.Perm.refl _⟩
section
variable {k : Nat} {u : SX} {v : SY}
theorem i_vc_gap {k : Nat} {u : SX} {v : SY} (I : i_Rel k u v) (hk : k + 4 ≤ 2050) : wpX_gap (fun r => wpY_gap (fun r' => r' = r ∧ i_Rel (k + 4) u v) v) u := by
  have J := I
  obtain ⟨g, lt, W, n, m, m2, D, e, f, lb, p, q, R, ak, aT, av, pk, ps, pe, pv, ek, et, ev, la, mk, pk', ps', pe', pv', rfl, rfl, _⟩ := I
  exact ⟨rfl, J⟩
theorem i_vc_lateness {k : Nat} {u : SX} {v : SY} (I : i_Rel k u v) (hk : k + 4 ≤ 2050) : wpX_lateness (fun r => wpY_lateness (fun r' => r' = r ∧ i_Rel (k + 4) u v) v) u := by
  have J := I
  obtain ⟨g, lt, W, n, m, m2, D, e, f, lb, p, q, R, ak, aT, av, pk, ps, pe, pv, ek, et, ev, la, mk, pk', ps', pe', pv', rfl, rfl, _⟩ := I
  exact ⟨rfl, J⟩
theorem i_vc_watermark {k : Nat} {u : SX} {v : SY} (I : i_Rel k u v) (hk : k + 4 ≤ 2050) : wpX_watermark (fun r => wpY_watermark (fun r' => r' = r ∧ i_Rel (k + 4) u v) v) u := by
  have J := I
  obtain ⟨g, lt, W, n, m, m2, D, e, f, lb, p, q, R, ak, aT, av, pk, ps, pe, pv, ek, et, ev, la, mk, pk', ps', pe', pv', rfl, rfl, _⟩ := I
  exact ⟨rfl, J⟩
theorem i_vc_storedEvents {k : Nat} {u : SX} {v : SY} (I : i_Rel k u v) (hk : k + 4 ≤ 2050) : wpX_storedEvents (fun r => wpY_storedEvents (fun r' => r' = r ∧ i_Rel (k + 4) u v) v) u := by
  have J := I
  obtain ⟨g, lt, W, n, m, m2, D, e, f, lb, p, q, R, ak, aT, av, pk, ps, pe, pv, ek, et, ev, la, mk, pk', ps', pe', pv', rfl, rfl, _⟩ := I
  exact ⟨rfl, J⟩
theorem i_vc_droppedCount {k : Nat} {u : SX} {v : SY} (I : i_Rel k u v) (hk : k + 4 ≤ 2050) : wpX_droppedCount (fun r => wpY_droppedCount (fun r' => r' = r ∧ i_Rel (k + 4) u v) v) u := by
  have J := I
  obtain ⟨g, lt, W, n, m, m2, D, e, f, lb, p, q, R, ak, aT, av, pk, ps, pe, pv, ek, et, ev, la, mk, pk', ps', pe', pv', rfl, rfl, _⟩ := I
  exact ⟨rfl, J⟩
theorem i_vc_recordCount {k : Nat} {u : SX} {v : SY} (I : i_Rel k u v) (hk : k + 4 ≤ 2050) : wpX_recordCount (fun r => wpY_recordCount (fun r' => r' = r ∧ i_Rel (k + 4) u v) v) u := by
  have J := I
  obtain ⟨g, lt, W, n, m, m2, D, e, f, lb, p, q, R, ak, aT, av, pk, ps, pe, pv, ek, et, ev, la, mk, pk', ps', pe', pv', rfl, rfl, _⟩ := I
  exact ⟨rfl, J⟩
theorem i_vc_paneCount {k : Nat} {u : SX} {v : SY} (I : i_Rel k u v) (hk : k + 4 ≤ 2050) : wpX_paneCount (fun r => wpY_paneCount (fun r' => r' = r ∧ i_Rel (k + 4) u v) v) u := by
  have J := I
  obtain ⟨g, lt, W, n, m, m2, D, e, f, lb, p, q, R, ak, aT, av, pk, ps, pe, pv, ek, et, ev, la, mk, pk', ps', pe', pv', rfl, rfl, hok, Hs, hE, HP, HG, HY, hp, HQ, hq⟩ := I
  have hm : m = m2 := by
    have := hq.length_eq
    rw [ew_Ll, ew_Ll] at this
    exact this
  exact ⟨congrArg nI hm.symm, J⟩
theorem i_vc_recordField {k : Nat} {u : SX} {v : SY} (I : i_Rel k u v) (hk : k + 4 ≤ 2050) (v1 : Int32) (v2 : Int32) : wpX_recordField (fun r => wpY_recordField (fun r' => r' = r ∧ i_Rel (k + 4) u v) v v1 v2) u v1 v2 := by
  have J := I
  obtain ⟨g, lt, W, n, m, m2, D, e, f, lb, p, q, R, ak, aT, av, pk, ps, pe, pv, ek, et, ev, la, mk, pk', ps', pe', pv', rfl, rfl, hok, Hs, hE, HP, HG, HY, hp, HQ, hq⟩ := I
  have w1 : vp_in (v1 &&& 63) 64 := pk_andIn _ 6 (by decide) (by decide)
  by_cases a : v1 < 0
  · exact br_t a (br_t a ⟨rfl, J⟩)
  by_cases b : R.2.2.2.2.2 ≤ v1
  · exact br_f a (br_t b (br_f a (br_t b ⟨rfl, J⟩)))
  by_cases c : R.2.2.2.2.2 - 64 ≤ v1
  · refine br_f a (br_f b (br_t c (nm_e ?_)))
    by_cases c0 : v2 = 0
    · subst c0
      exact br_f (by decide) (br_f (by decide) (br_t rfl ⟨w1, br_f a (br_f b (br_t c (nm_e (br_t rfl ⟨w1, rfl, J⟩))))⟩))
    by_cases c1 : v2 = 1
    · subst c1
      exact br_f (by decide) (br_f (by decide) (br_f c0 (br_t rfl ⟨w1, br_f a (br_f b (br_t c (nm_e (br_f c0 (br_t rfl ⟨w1, rfl, J⟩)))))⟩)))
    by_cases c2 : v2 = 2
    · subst c2
      exact br_f (by decide) (br_f (by decide) (br_f c0 (br_f c1 (br_t rfl ⟨w1, br_f a (br_f b (br_t c (nm_e (br_f c0 (br_f c1 (br_t rfl ⟨w1, rfl, J⟩))))))⟩))))
    by_cases c3 : v2 = 3
    · subst c3
      exact br_f (by decide) (br_f (by decide) (br_f c0 (br_f c1 (br_f c2 (br_t rfl ⟨w1, br_f a (br_f b (br_t c (nm_e (br_f c0 (br_f c1 (br_f c2 (br_t rfl ⟨w1, rfl, J⟩)))))))⟩)))))
    by_cases c4 : v2 = 4
    · subst c4
      exact br_f (by decide) (br_f (by decide) (br_f c0 (br_f c1 (br_f c2 (br_f c3 (br_t rfl ⟨w1, br_f a (br_f b (br_t c (nm_e (br_f c0 (br_f c1 (br_f c2 (br_f c3 (br_t rfl ⟨w1, rfl, J⟩))))))))⟩))))))
    have Y : wpY_recordField (fun r' => r' = -1 ∧ i_Rel (k + 4) _ _) (nI g, nI lt, nI W, nI n, D, R.2.2.2.2.2, nI m2, ek, et, ev, la, mk, pk', ps', pe', pv', R.1, R.2.1, R.2.2.1, R.2.2.2.1, R.2.2.2.2.1) v1 v2 := br_f a (br_f b (br_t c (nm_e (br_f c0 (br_f c1 (br_f c2 (br_f c3 (br_f c4 ⟨rfl, J⟩))))))))
    exact br_c (fun _ => Y) (fun _ => br_c (fun _ => Y) (fun _ => br_f c0 (br_f c1 (br_f c2 (br_f c3 (br_f c4 trivial))))))
  · exact br_f a (br_f b (br_f c (br_f a (br_f b (br_f c ⟨rfl, J⟩)))))
theorem i_vc_sessionCount {k : Nat} {u : SX} {v : SY} (I : i_Rel k u v) (hk : k + 4 ≤ 2050) : wpX_sessionCount (fun r => wpY_sessionCount (fun r' => r' = r ∧ i_Rel (k + 4) u v) v) u := by
  have J := I
  obtain ⟨g, lt, W, n, m, m2, D, e, f, lb, p, q, R, ak, aT, av, pk, ps, pe, pv, ek, et, ev, la, mk, pk', ps', pe', pv', rfl, rfl, hok, Hs, hE, HP, HG, HY, hp, HQ, hq⟩ := I
  have H : ew_ev g n e ak aT av := ⟨hok.1, hok.2.1, hok.2.2.2.2.1, hE, hok.2.2.2.2.2⟩
  exact xa_sc H (ya_sc HY ⟨by rw [ew_cnt hp Hs hok.1 HY.2.2], J⟩)
theorem i_vc_sessionField {k : Nat} {u : SX} {v : SY} (I : i_Rel k u v) (hk : k + 4 ≤ 2050) (v1 : Int32) (v2 : Int32) : wpX_sessionField (fun r => wpY_sessionField (fun r' => r' = r ∧ i_Rel (k + 4) u v) v v1 v2) u v1 v2 := by
  have J := I
  obtain ⟨g, lt, W, n, m, m2, D, e, f, lb, p, q, R, ak, aT, av, pk, ps, pe, pv, ek, et, ev, la, mk, pk', ps', pe', pv', rfl, rfl, hok, Hs, hE, HP, HG, HY, hp, HQ, hq⟩ := I
  have H : ew_ev g n e ak aT av := ⟨hok.1, hok.2.1, hok.2.2.2.2.1, hE, hok.2.2.2.2.2⟩
  have hn := hok.2.2.2.2.1
  have hle : (ew_xl g e n).length ≤ n := by
    rw [ew_xl_l]
    exact ew_ct_le _ n
  refine xq_sess H Hs (fun x ks hx h1 h2 => ?_) (fun hno => ?_)
  · subst hx
    exact yq_sess HY hp Hs h1 h2 ⟨rfl, J⟩
  · by_cases a : v1 < 0
    · exact br_t a ⟨rfl, J⟩
    · obtain ⟨j, hj, rfl⟩ := nI_of a
      refine br_f a (ya_sc HY ?_)
      rw [ew_cnt hp Hs hok.1 HY.2.2]
      refine br_f (fun z => ?_) ⟨rfl, J⟩
      exact hno j ((nI_ltI hj (by omega)).mp z) rfl
theorem i_vc_paneField {k : Nat} {u : SX} {v : SY} (I : i_Rel k u v) (hk : k + 4 ≤ 2050) (v1 : Int32) (v2 : Int32) : wpX_paneField (fun r => wpY_paneField (fun r' => r' = r ∧ i_Rel (k + 4) u v) v v1 v2) u v1 v2 := by
  have J := I
  obtain ⟨g, lt, W, n, m, m2, D, e, f, lb, p, q, R, ak, aT, av, pk, ps, pe, pv, ek, et, ev, la, mk, pk', ps', pe', pv', rfl, rfl, hok, Hs, hE, HP, HG, HY, hp, HQ, hq⟩ := I
  have hm : m = m2 := by
    have := hq.length_eq
    rw [ew_Ll, ew_Ll] at this
    exact this
  have hm32 := HP.1
  subst hm
  by_cases a : v1 < 0
  · exact br_t a (br_t a ⟨rfl, J⟩)
  · obtain ⟨j, hj, rfl⟩ := nI_of a
    by_cases b : j < m
    · refine xq_pane HP b (yq_pane HQ hq HG.1 b (fun y hy => ⟨?_, J⟩))
      rw [ew_Lg b] at hy
      rw [Option.some.inj hy]
    · have b' : ¬ nI j < nI m := nI_nlt (by omega) hj
      exact br_f a (br_f b' (br_f a (br_f b' ⟨rfl, J⟩)))
theorem i_vc_early {k : Nat} {u : SX} {v : SY} (I : i_Rel k u v) (hk : k + 4 ≤ 2050) : wpX_early (fun r u' => wpY_early (fun r' v' => r' = r ∧ i_Rel (k + 4) u' v') v) u := by
  obtain ⟨g, lt, W, n, m, m2, D, e, f, lb, p, q, R, ak, aT, av, pk, ps, pe, pv, ek, et, ev, la, mk, pk', ps', pe', pv', rfl, rfl, hok, Hs, hE, HP, HG, HY, hp, HQ, hq⟩ := I
  refine xa_ear hok Hs hE HP HG (fun m' p' R' pk ps pe pv h1 h2 => yt_ear HY (ew_ok_p hok hp) hp Hs HQ hq HG (fun m'' q' pk' ps' pe' pv' h3 h4 => ?_))
  have G1 := ew_ff_G (kd := 1) (t := fun z => ew_dc (¬ z ≤ W)) hok.1 (ew_xl g e n) (ew_L p m, R) (fun ks hk => ew_xl_O Hs (Nat.le_refl _) hk) HG
  rw [← h2] at h4 G1 ⊢
  exact ⟨rfl, g, lt, W, n, m', m'', D, e, f, lb, p', q', R', ak, aT, av, pk, ps, pe, pv, ek, et, ev, la, mk, pk', ps', pe', pv', rfl, rfl, hok, Hs, hE, h1, G1, HY, hp, h3, h4⟩
theorem i_vc_advance {k : Nat} {u : SX} {v : SY} (I : i_Rel k u v) (hk : k + 4 ≤ 2050) (v1 : Int32) : wpX_advance (fun r u' => wpY_advance (fun r' v' => r' = r ∧ i_Rel (k + 4) u' v') v v1) u v1 := by
  have J := I
  obtain ⟨g, lt, W, n, m, m2, D, e, f, lb, p, q, R, ak, aT, av, pk, ps, pe, pv, ek, et, ev, la, mk, pk', ps', pe', pv', rfl, rfl, hok, Hs, hE, HP, HG, HY, hp, HQ, hq⟩ := I
  have hW0 := hok.2.2.2.1
  by_cases a : v1 ≤ nI W
  · exact br_t a (br_t a ⟨rfl, J⟩)
  by_cases b : v1 ≤ 2100000
  · have a0 : ¬ v1 < 0 := fun z => a (Int32.le_trans (Int32.le_of_lt z) (nI_pos' (by omega)))
    obtain ⟨W', hW', rfl⟩ := nI_of2 (M := 2100000) (n := 2100000) (by decide) a0 b
    have hlt : W < W' := Nat.not_le.mp fun z => a (nI_le z (by omega))
    refine xa_adv hok Hs hE HP HG hlt hW' (fun nc mc c p' R' ak aT av pk ps pe pv h1 h2 h3 h4 => yt_adv HY (ew_ok_p hok hp) hp Hs HQ hq HG hlt hW' (fun kc c2 la lb ek et ev mk m' q' pk' ps' pe' pv' h5 h6 h7 h8 => ?_))
    have G1 := ew_ff_G (kd := 2) (t := fun z => ew_dc (z ≤ W')) hok.1 (ew_xl g e n) (ew_L p m, R) (fun ks hk => ew_xl_O Hs (Nat.le_refl _) hk) HG
    have G2 := ew_exp_G (l := lt) (W := W') G1
    have e1 := congrArg Prod.fst h4
    have e2 := congrArg Prod.snd h4
    dsimp only at e1 e2
    rw [← e1, ← h2] at G2
    rw [← ew_pp_p hp, ← e1] at h8
    have hperm : (ew_L c nc).Perm (ew_L c2 kc) := by
      rw [h2, h6, ew_kp_p hp]
      exact hp.filter _
    have hn : nc = kc := by
      have := hperm.length_eq
      rw [ew_Ll, ew_Ll] at this
      exact this
    subst hn
    have hnc : nc ≤ n := by
      have := List.length_filter_le (ew_kp g (ew_L e n) lt W') (ew_L e n)
      rw [← h2, ew_Ll, ew_Ll] at this
      exact this
    have hok' : ew_ok g lt W' nc c := by
      obtain ⟨o1, o2, o3, o4, o5, o6⟩ := id hok
      refine ⟨o1, o2, o3, hW', by omega, fun i hi => ?_⟩
      have hm : c i ∈ (ew_L e n).filter (ew_kp g (ew_L e n) lt W') := by
        rw [← h2]
        exact ew_Lm.mpr ⟨i, hi, rfl⟩
      obtain ⟨t, ht, z⟩ := ew_Lm.mp (List.mem_filter.mp hm).1
      rw [← z]
      exact o6 t ht
    have Hs' : ew_srt c nc := by
      rw [ew_srtL, h2]
      exact List.Pairwise.filter _ (ew_srtL.mp Hs)
    rw [← e2]
    exact ⟨rfl, g, lt, W', nc, mc, m', D, c, c2, lb, p', q', R', ak, aT, av, pk, ps, pe, pv, ek, et, ev, la, mk, pk', ps', pe', pv', rfl, rfl, hok', Hs', h1, h3, G2, h5, hperm, h7, h8⟩
  · exact br_f a (br_f b (br_f a (br_f b ⟨rfl, J⟩)))
theorem i_vc_addEvent {k : Nat} {u : SX} {v : SY} (I : i_Rel k u v) (hk : k + 4 ≤ 2050) (v1 : Int32) (v2 : Int32) (v3 : Int32) : wpX_addEvent (fun r u' => wpY_addEvent (fun r' v' => r' = r ∧ i_Rel (k + 4) u' v') v v1 v2 v3) u v1 v2 v3 := by
  have J := I
  obtain ⟨g, lt, W, n, m, m2, D, e, f, lb, p, q, R, ak, aT, av, pk, ps, pe, pv, ek, et, ev, la, mk, pk', ps', pe', pv', rfl, rfl, hok, Hs, hE, HP, HG, HY, hp, HQ, hq⟩ := I
  obtain ⟨o1, o2, o3, o4, o5, o6⟩ := id hok
  by_cases a1 : v1 < 0
  · exact br_t a1 (br_t a1 ⟨rfl, J⟩)
  by_cases a2 : v1 ≤ 7
  rotate_left
  · exact br_f a1 (br_f a2 (br_f a1 (br_f a2 ⟨rfl, J⟩)))
  by_cases b1 : v2 < 0
  · exact br_f a1 (br_t a2 (br_t b1 (br_f a1 (br_t a2 (br_t b1 ⟨rfl, J⟩)))))
  by_cases b2 : v2 ≤ 1000000
  rotate_left
  · exact br_f a1 (br_t a2 (br_f b1 (br_f b2 (br_f a1 (br_t a2 (br_f b1 (br_f b2 ⟨rfl, J⟩)))))))
  by_cases c1 : v3 < -1000
  · exact br_f a1 (br_t a2 (br_f b1 (br_t b2 (br_t c1 (br_f a1 (br_t a2 (br_f b1 (br_t b2 (br_t c1 ⟨rfl, J⟩)))))))))
  by_cases c2 : v3 ≤ 1000
  rotate_left
  · exact br_f a1 (br_t a2 (br_f b1 (br_t b2 (br_f c1 (br_f c2 (br_f a1 (br_t a2 (br_f b1 (br_t b2 (br_f c1 (br_f c2 ⟨rfl, J⟩)))))))))))
  by_cases d1 : nI W ≤ v2 + nI lt
  rotate_left
  · exact br_f a1 (br_t a2 (br_f b1 (br_t b2 (br_f c1 (br_t c2 (br_f d1 (nm_e (br_f a1 (br_t a2 (br_f b1 (br_t b2 (br_f c1 (br_t c2 (br_f d1 (nm_e ⟨rfl, g, lt, W, n, m, m2, D + 1, e, f, lb, p, q, R, ak, aT, av, pk, ps, pe, pv, ek, et, ev, la, mk, pk', ps', pe', pv', rfl, rfl, hok, Hs, hE, HP, HG, HY, hp, HQ, hq⟩)))))))))))))))
  by_cases d2 : n < 32
  rotate_left
  · have d3 : ¬ nI n < 32 := nI_nlt (b := 32) (by omega) (by omega)
    exact br_f a1 (br_t a2 (br_f b1 (br_t b2 (br_f c1 (br_t c2 (br_t d1 (br_f d3 (br_f a1 (br_t a2 (br_f b1 (br_t b2 (br_f c1 (br_t c2 (br_t d1 (br_f d3 ⟨rfl, J⟩)))))))))))))))
  obtain ⟨kk, hkk, rfl⟩ := nI_of2 (M := 7) (n := 7) (by decide) a1 a2
  obtain ⟨tt, htt, rfl⟩ := nI_of2 (M := 1000000) (n := 1000000) (by decide) b1 b2
  have hW : W ≤ tt + lt := by
    rw [nI_add] at d1
    exact (nI_leI (by omega) (by omega)).mp d1
  refine xa_add hok Hs hE HP HG hkk htt c1 c2 hW d2 (fun b ak aT av m' p' R' pk ps pe pv g1 g2 g3 g4 g5 => yt_add HY (ew_ok_p hok hp) HQ hq (ew_G_p hp HG) hkk htt c1 c2 hW d2 (fun f' ek et ev la lb m'' q' pk' ps' pe' pv' h1 h2 h3 h4 h5 => ?_))
  have hperm : (ew_L (ew_put e (kk, tt, v3) b) (n + 1)).Perm (ew_L f' (n + 1)) := by
    rw [h1]
    exact (ew_put_p e (kk, tt, v3) b n g1).trans ((hp.cons _).trans (List.perm_append_singleton _ _).symm)
  have hks : ew_ks g f' (n + 1) n = ew_ks g (ew_put e (kk, tt, v3) b) (n + 1) b := by
    unfold ew_ks
    rw [h2, ew_put_b, ew_Mp hperm]
  have hfs : ew_fs 3 (fun z => ew_dc (z ≤ W)) g (ew_L f' (n + 1)) = ew_fs 3 (fun z => ew_dc (z ≤ W)) g (ew_L (ew_put e (kk, tt, v3) b) (n + 1)) := by
    funext st ks
    unfold ew_fs
    rw [ew_ss_p hperm]
  rw [hfs, hks, ← g5] at h5 ⊢
  have hok' : ew_ok g lt W (n + 1) (ew_put e (kk, tt, v3) b) := by
    refine ⟨o1, o2, o3, o4, by omega, fun i hi => ?_⟩
    by_cases a : i < b
    · rw [ew_put_a a]
      exact o6 i (by omega)
    · by_cases d : i = b
      · rw [d, ew_put_b]
        exact ⟨hkk, htt⟩
      · rw [ew_put_c (show b < i by omega)]
        exact o6 (i - 1) (by omega)
  have HG' : ew_G g (ew_L (ew_put e (kk, tt, v3) b) (n + 1)) (ew_L p m) := ew_add_G (fun x hx => (ew_put_p e (kk, tt, v3) b n g1).mem_iff.mpr (List.mem_cons_of_mem _ hx)) HG
  have G1 := ew_fs_G (kd := 3) (t := fun z => ew_dc (z ≤ W)) (st := (ew_L p m, R)) o1 (ew_ks_O (g := g) (e := ew_put e (kk, tt, v3) b) (show b < n + 1 by omega)) HG'
  rw [← g5] at G1
  exact ⟨rfl, g, lt, W, n + 1, m', m'', D, ew_put e (kk, tt, v3) b, f', lb, p', q', R', ak, aT, av, pk, ps, pe, pv, ek, et, ev, la, mk, pk', ps', pe', pv', rfl, rfl, hok', g2, g3, g4, G1, h3, hperm, h4, h5⟩
end
