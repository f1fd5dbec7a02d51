section
variable {g n m i j x k t lt W b : Nat} {l w D c v : Int32} {ak aT av ek et ev la mk pk ps pe pv r1 r2 r3 r4 r5 : Nat → Int32} {e f : Nat → ew_E} {lb : Nat → Nat} {p q : Nat → ew_P} {R : ew_R}
theorem xa_add (hok : ew_ok g lt W n e) (Hs : ew_srt e n) (hE : ew_aE n e ak aT av) (HP : ew_pa m p pk ps pe pv) (HG : ew_G g (ew_L e n) (ew_L p m)) (hk : k ≤ 7) (ht : t ≤ 1000000) (hv1 : ¬ v < -1000) (hv2 : v ≤ 1000) (hW : W ≤ t + lt) (hn : n < 32) {post : Int32 → St2 → Prop}
    (K : ∀ b ak aT av m' p' R' pk ps pe pv, b ≤ n → ew_srt (ew_put e (k, t, v) b) (n + 1) → ew_aE (n + 1) (ew_put e (k, t, v) b) ak aT av → ew_pa m' p' pk ps pe pv → (ew_L p' m', R') = ew_fs 3 (fun z => ew_dc (z ≤ W)) g (ew_L (ew_put e (k, t, v) b) (n + 1)) (ew_L p m, R) (ew_ks g (ew_put e (k, t, v) b) (n + 1) b) → post (R'.2.2.2.2.2 - R.2.2.2.2.2) (nI g, nI lt, nI W, D, nI (n + 1), nI m', R'.2.2.2.2.2, ak, aT, av, pk, ps, pe, pv, R'.1, R'.2.1, R'.2.2.1, R'.2.2.2.1, R'.2.2.2.2.1)) : wpX_addEvent post (nI g, nI lt, nI W, D, nI n, nI m, R.2.2.2.2.2, ak, aT, av, pk, ps, pe, pv, R.1, R.2.1, R.2.2.1, R.2.2.2.1, R.2.2.2.2.1) (nI k) (nI t) v := by
  obtain ⟨o1, o2, o3, o4, o5, o6⟩ := id hok
  have H : ew_ev g n e ak aT av := ⟨o1, o2, o5, hE, o6⟩
  refine br_f (nI_pos (by omega)) (br_t (nI_le (b := 7) hk (by omega)) (br_f (nI_pos (by omega)) (br_t (nI_le (b := 1000000) ht (by omega)) (br_f hv1 (br_t hv2 (br_t ?_ (br_t (nI_lt (b := 32) hn (by omega)) ?_)))))))
  · rw [nI_add]
    exact nI_le hW (by omega)
  · refine xe_ins (s := (k, t, v)) H hn ⟨hk, ht⟩ (fun b ak aT av hb h1 h2 h3 => ?_)
    have Hs' : ew_srt (ew_put e (k, t, v) b) (n + 1) := ew_put_s Hs hb h1 (by
      rcases h2 with h2 | h2
      · exact Or.inl h2
      · refine Or.inr ?_
        unfold ew_ela at h2
        dsimp only at h2
        omega)
    have hb' : ∀ i, i < n + 1 → (ew_put e (k, t, v) b i).1 ≤ 7 ∧ (ew_put e (k, t, v) b i).2.1 ≤ 1000000 := by
      intro i hi
      by_cases a : i < b
      · rw [ew_put_a a]
        exact o6 i (by omega)
      · by_cases d : i = b
        · rw [d, ew_put_b]
          exact ⟨hk, ht⟩
        · rw [ew_put_c (show b < i by omega)]
          exact o6 (i - 1) (by omega)
    have hok' : ew_ok g lt W (n + 1) (ew_put e (k, t, v) b) := ⟨o1, o2, o3, o4, by omega, hb'⟩
    have H' : ew_ev g (n + 1) (ew_put e (k, t, v) b) ak aT av := ⟨o1, o2, by omega, h3, hb'⟩
    have HG' : ew_G g (ew_L (ew_put e (k, t, v) b) (n + 1)) (ew_L p m) := ew_add_G (fun x hx => (ew_put_p e (k, t, v) b n hb).mem_iff.mpr (List.mem_cons_of_mem _ hx)) HG
    refine xa_first H' (show b < n + 1 by omega) (fun i hi ho hno => ?_)
    have hks := ew_ksX Hs' (show b < n + 1 by omega) hi ho hno
    have K' := K b ak aT av
    rw [hks] at K'
    obtain ⟨q0, B⟩ := ew_bx (g := g) (e := ew_put e (k, t, v) b) (show i < n + 1 by omega)
    obtain ⟨S1, _⟩ := ew_sX Hs' o1 ho B
    have O := ew_opO Hs' (show i < n + 1 by omega) ho
    have bs := ew_okS (ks := ((ew_put e (k, t, v) b i).1, (ew_put e (k, t, v) b i).2.1)) hok' O
    have hend : (ew_put e (k, t, v) b (q0 - 1)).2.1 + g = (ew_ss g (ew_L (ew_put e (k, t, v) b) (n + 1)) ((ew_put e (k, t, v) b i).1, (ew_put e (k, t, v) b i).2.1)).2.2.1 := by rw [S1]
    refine xa_end H' B ?_
    rw [hend]
    refine ek_if (nI_ltI (by omega) (by omega)) (fun z => K' m p R pk ps pe pv hb Hs' h3 HP ?_) (fun z => xa_fire H' Hs' HP HG' (by omega) ho (fun k2 pk ps pe pv q' R' g1 g2 => K' k2 q' R' pk ps pe pv hb Hs' h3 g1 ?_))
    · rw [ew_fs_n]
      intro z2
      have := ew_dcI.mp z2
      omega
    · rw [g2, ew_fs_y (t := fun z => ew_dc (z ≤ W)) (ew_dcI.mpr (by omega))]
/-- a session's field -/
def ew_sf (y : ew_P) (cn : Nat) (z : Int32) : Int32 := if z = 1 then nI y.1 else if z = 2 then nI y.2.1 else if z = 3 then nI y.2.2.1 else if z = 4 then y.2.2.2 else if z = 5 then nI cn else -1
theorem ew_xl_i : ∀ n j, j < (ew_xl g e n).length → ∃ i, i < n ∧ ew_op g e i ∧ (ew_xl g e i).length = j := by
  intro n
  induction n with
  | zero => intro j h; exact absurd h (Nat.not_lt_zero j)
  | succ n ih =>
    intro j h
    by_cases c : ew_op g e n
    · rw [ew_xl_y c, List.length_append] at h
      by_cases d : j < (ew_xl g e n).length
      · obtain ⟨i, h1, h2, h3⟩ := ih j d
        exact ⟨i, by omega, h2, h3⟩
      · refine ⟨n, by omega, c, ?_⟩
        have h' : j < (ew_xl g e n).length + 1 := h
        omega
    · rw [ew_xl_n c] at h
      obtain ⟨i, h1, h2, h3⟩ := ih j h
      exact ⟨i, by omega, h2, h3⟩
theorem xq_sess (H : ew_ev g n e ak aT av) (Hs : ew_srt e n) {y z : Int32} {post : Int32 → Prop}
    (h1 : ∀ x ks, y = nI x → x < (ew_xl g e n).length → (ew_xl g e n)[x]? = some ks → post (ew_sf (ew_ss g (ew_L e n) ks) (ew_sc g (ew_L e n) ks) z)) (h0 : (∀ x, x < (ew_xl g e n).length → y ≠ nI x) → post (-1)) : wpX_sessionField post (nI g, l, w, D, nI n, nI m, c, ak, aT, av, pk, ps, pe, pv, r1, r2, r3, r4, r5) y z := by
  obtain ⟨o1, o2, o3, hE, o6⟩ := id H
  refine xa_at H (fun i hi ho hy => br_t (nI_lt hi (by omega)) ?_) (fun hno => br_f (nI_nlt (Nat.le_refl n) (by omega)) (h0 (fun x hx hy => ?_)))
  · have vi : vp_in (nI i) 32 := vp_in_nI (by omega) (by omega)
    have ci : (nI i).toNatClampNeg = i := nI_clamp (by omega)
    obtain ⟨q0, B⟩ := ew_bx (g := g) (e := e) hi
    have B1 := B.1
    obtain ⟨S1, S2⟩ := ew_sX Hs o1 ho B
    have hg := ew_xl_g ho (n - (i + 1))
    rw [show i + 1 + (n - (i + 1)) = n by omega] at hg
    have hlt := (List.getElem?_eq_some_iff.mp hg).1
    have hp := h1 _ _ hy hlt hg
    rw [S1, S2] at hp
    unfold ew_sf at hp
    dsimp only at hp
    by_cases c1 : z = 1
    · rw [if_pos c1] at hp
      subst c1
      exact br_f (by decide) (br_f (by decide) (br_t rfl ⟨vi, by rw [ci, (hE i hi).1]; exact hp⟩))
    · by_cases c2 : z = 2
      · rw [if_neg c1, if_pos c2] at hp
        subst c2
        exact br_f (by decide) (br_f (by decide) (br_f c1 (br_t rfl ⟨vi, by rw [ci, (hE i hi).2.1]; exact hp⟩)))
      · by_cases c3 : z = 3
        · rw [if_neg c1, if_neg c2, if_pos c3] at hp
          subst c3
          exact br_f (by decide) (br_f (by decide) (br_f c1 (br_f c2 (br_t rfl (xa_end H B hp)))))
        · by_cases c4 : z = 4
          · rw [if_neg c1, if_neg c2, if_neg c3, if_pos c4] at hp
            subst c4
            exact br_f (by decide) (br_f (by decide) (br_f c1 (br_f c2 (br_f c3 (br_t rfl (xa_sum H B hp))))))
          · by_cases c5 : z = 5
            · rw [if_neg c1, if_neg c2, if_neg c3, if_neg c4, if_pos c5] at hp
              subst c5
              exact br_f (by decide) (br_f (by decide) (br_f c1 (br_f c2 (br_f c3 (br_f c4 (br_t rfl (xa_past H B (by rw [pk_sub (by omega)]; exact hp))))))))
            · rw [if_neg c1, if_neg c2, if_neg c3, if_neg c4, if_neg c5] at hp
              exact br_c (fun _ => hp) (fun _ => br_c (fun _ => hp) (fun _ => br_f c1 (br_f c2 (br_f c3 (br_f c4 (br_f c5 trivial))))))
  · obtain ⟨i, a1, a2, a3⟩ := ew_xl_i n x hx
    exact hno i a1 a2 (by rw [a3]; exact hy)
end
section
theorem ew_srtL {e : Nat → ew_E} {n : Nat} : ew_srt e n ↔ (ew_L e n).Pairwise (fun a b => a.1 < b.1 ∨ (a.1 = b.1 ∧ a.2.1 ≤ b.2.1)) := by
  rw [ew_Lp]
  constructor
  · intro h i j hij hj
    exact h i j (by omega) hj
  · intro h i j hij hj
    by_cases c : i = j
    · subst c
      exact Or.inr ⟨rfl, Nat.le_refl _⟩
    · exact h i j (by omega) hj
end
