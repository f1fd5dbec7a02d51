/-! Y: firing, dropping panes -/
section
variable {g n m i j x k r b : Nat} {l w D c kd : Int32} {ek et ev la mk pk ps pe pv r1 r2 r3 r4 r5 : Nat → Int32} {e : Nat → ew_E} {lb : Nat → Nat} {q : Nat → ew_P} {s y : ew_P} {R : ew_R}
theorem yp_bel (hi : i < 32) (h : ew_at i y pk ps pe pv) (hy : ew_xb y) (hs : ew_xb s) {post : Int32 → Prop} (h1 : ew_bl s y → post 1) (h0 : ¬ ew_bl s y → post 0) : wpY_belongs post (nI g, l, w, nI n, D, c, nI m, ek, et, ev, la, mk, pk, ps, pe, pv, r1, r2, r3, r4, r5) (nI i) (nI s.1) (nI s.2.1) (nI s.2.2.1) := by
  have v1 : vp_in (nI i) 32 := vp_in_nI hi (by omega)
  have c1 : (nI i).toNatClampNeg = i := nI_clamp (by omega)
  obtain ⟨a1, a2, a3, _⟩ := h
  obtain ⟨b1, b2, b3⟩ := hy
  obtain ⟨d1, d2, d3⟩ := hs
  refine ⟨v1, ?_⟩
  rw [c1, a1, a2, a3]
  refine ek_if (nI_eq (by omega) (by omega)) (fun z1 => ⟨v1, ek_if (nI_ltI (by omega) (by omega)) (fun z2 => h0 (fun z => ?_)) (fun z2 => ⟨v1, ek_if (nI_ltI (by omega) (by omega)) (fun z3 => h0 (fun z => ?_)) (fun z3 => h1 ⟨z1, by omega, by omega⟩)⟩)⟩) (fun z1 => h0 (fun z => z1 z.1))
  · have := z.2.1
    omega
  · have := z.2.2
    omega
theorem yp_emit {a b d f : Int32} {post : SY → Prop} (h : post (nI g, l, w, nI n, D, (ew_em R kd a b d f).2.2.2.2.2, nI m, ek, et, ev, la, mk, pk, ps, pe, pv, (ew_em R kd a b d f).1, (ew_em R kd a b d f).2.1, (ew_em R kd a b d f).2.2.1, (ew_em R kd a b d f).2.2.2.1, (ew_em R kd a b d f).2.2.2.2.1)) : wpY_emit post (nI g, l, w, nI n, D, R.2.2.2.2.2, nI m, ek, et, ev, la, mk, pk, ps, pe, pv, R.1, R.2.1, R.2.2.1, R.2.2.2.1, R.2.2.2.2.1) kd a b d f := by
  have v : vp_in (R.2.2.2.2.2 &&& 63) 64 := pk_andIn _ 6 (by decide) (by decide)
  exact nm_e ⟨v, nm_e ⟨v, nm_e ⟨v, nm_e ⟨v, nm_e ⟨v, nm_e (nm_e h)⟩⟩⟩⟩⟩
theorem yp_rmv (H : ew_pa (m + 1) q pk ps pe pv) (hb : b < m + 1) {post : SY → Prop}
    (K : ∀ pk ps pe pv q', ew_pa m q' pk ps pe pv → (ew_L q (m + 1)).Perm (q b :: ew_L q' m) → (∀ j, j ≠ b → q' j = q j) → post (nI g, l, w, nI n, D, c, nI m, ek, et, ev, la, mk, pk, ps, pe, pv, r1, r2, r3, r4, r5)) : wpY_removePane post (nI g, l, w, nI n, D, c, nI (m + 1), ek, et, ev, la, mk, pk, ps, pe, pv, r1, r2, r3, r4, r5) (nI b) := by
  have hm := H.1
  have vb : vp_in (nI b) 32 := vp_in_nI (by omega) (by omega)
  have cb : (nI b).toNatClampNeg = b := nI_clamp (by omega)
  have vm : vp_in (nI m) 32 := vp_in_nI (by omega) (by omega)
  have cm : (nI m).toNatClampNeg = m := nI_clamp (by omega)
  refine br_f (nI_pos (by omega)) (br_t (nI_lt hb (by omega)) (nm_r (nI_pred m) ⟨vm, vb, nm_r (e' := upd pk b (pk m)) (by rw [cm, cb]) ⟨vm, vb, nm_r (e' := upd ps b (ps m)) (by rw [cm, cb]) ⟨vm, vb, nm_r (e' := upd pe b (pe m)) (by rw [cm, cb]) ⟨vm, vb, nm_r (e' := upd pv b (pv m)) (by rw [cm, cb]) (K _ _ _ _ (fun j => if j = b then q m else q j) ⟨by omega, fun j hj => ?_⟩ (ew_rmv q hb) (fun j hj => if_neg hj))⟩⟩⟩⟩))
  have am := H.2 m (by omega)
  dsimp only
  by_cases f : j = b
  · rw [f, if_pos rfl]
    exact ⟨ew_at_s am.1.1 am.1.2.1 am.1.2.2.1 am.1.2.2.2, am.2⟩
  · rw [if_neg f]
    exact ⟨ew_at_n f (H.2 j (by omega)).1, (H.2 j (by omega)).2⟩
theorem yp_244 (H : ew_pa m q pk ps pe pv) (hs : ew_xb s) {post : SY → Prop}
    (K : ∀ k pk ps pe pv q', ew_pa k q' pk ps pe pv → ew_L q' k = (if m < 32 then ew_L q m ++ [s] else ew_L q m) → post (nI g, l, w, nI n, D, (ew_em R kd (nI s.1) (nI s.2.1) (nI s.2.2.1) s.2.2.2).2.2.2.2.2, nI k, ek, et, ev, la, mk, pk, ps, pe, pv, (ew_em R kd (nI s.1) (nI s.2.1) (nI s.2.2.1) s.2.2.2).1, (ew_em R kd (nI s.1) (nI s.2.1) (nI s.2.2.1) s.2.2.2).2.1, (ew_em R kd (nI s.1) (nI s.2.1) (nI s.2.2.1) s.2.2.2).2.2.1, (ew_em R kd (nI s.1) (nI s.2.1) (nI s.2.2.1) s.2.2.2).2.2.2.1, (ew_em R kd (nI s.1) (nI s.2.1) (nI s.2.2.1) s.2.2.2).2.2.2.2.1)) : wY_fire_244 post kd (nI s.1) (nI s.2.1) (nI s.2.2.1) s.2.2.2 (nI g) l w (nI n) D R.2.2.2.2.2 (nI m) ek et ev la mk pk ps pe pv R.1 R.2.1 R.2.2.1 R.2.2.2.1 R.2.2.2.2.1 := by
  have hm := H.1
  have cm : (nI m).toNatClampNeg = m := nI_clamp (by omega)
  refine yp_emit (ek_if (nI_leI (a := 32) (by omega) (by omega)) (fun z => K m pk ps pe pv q H (by rw [if_neg (by omega)])) (fun z => ?_))
  have vm : vp_in (nI m) 32 := vp_in_nI (by omega) (by omega)
  refine ⟨vm, nm_r (e' := upd pk m (nI s.1)) (by rw [cm]) ⟨vm, nm_r (e' := upd ps m (nI s.2.1)) (by rw [cm]) ⟨vm, nm_r (e' := upd pe m (nI s.2.2.1)) (by rw [cm]) ⟨vm, nm_r (e' := upd pv m s.2.2.2) (by rw [cm]) (nm_r (nI_1 m) (K (m + 1) _ _ _ _ (fun j => if j = m then s else q j) ⟨by omega, fun j hj => ?_⟩ ?_))⟩⟩⟩⟩
  · dsimp only
    by_cases f : j = m
    · rw [f, if_pos rfl]
      exact ⟨ew_at_s rfl rfl rfl rfl, hs⟩
    · rw [if_neg f]
      exact ⟨ew_at_n f (H.2 j (by omega)).1, (H.2 j (by omega)).2⟩
  · have e1 : ew_L (fun j => if j = m then s else q j) m = ew_L q m := ew_Lc (fun j hj => if_neg (by omega))
    rw [if_pos (show m < 32 by omega), ew_Ls, e1, if_pos rfl]
section
variable {post : SY → Prop} {x9 : Nat} {J : Int32 → Int32 → Int32 → Int32 → Int32 → Int32 → Int32 → Int32 → (Nat → Int32) → (Nat → Int32) → (Nat → Int32) → (Nat → Int32) → (Nat → Int32) → (Nat → Int32) → (Nat → Int32) → (Nat → Int32) → (Nat → Int32) → (Nat → Int32) → (Nat → Int32) → (Nat → Int32) → (Nat → Int32) → (Nat → Int32) → Prop}
theorem yp_136b (H : ew_pa m q pk ps pe pv) (hs : ew_xb s)
    (K : ∀ b m' pk ps pe pv q', m = m' + 1 → b < m → ew_bl s (q b) → (∀ j, j < m → ew_bl s (q j) → (q b).2.1 ≤ (q j).2.1) → ew_pa m' q' pk ps pe pv → (ew_L q m).Perm (q b :: ew_L q' m') → J (nI (x9 + 1)) (nI g) l w (nI n) D (ew_rt R (q b)).2.2.2.2.2 (nI m') ek et ev la mk pk ps pe pv (ew_rt R (q b)).1 (ew_rt R (q b)).2.1 (ew_rt R (q b)).2.2.1 (ew_rt R (q b)).2.2.2.1 (ew_rt R (q b)).2.2.2.2.1) :
    ∀ d x b, x + d = m → b < x → ew_bl s (q b) → (∀ j, j < x → ew_bl s (q j) → (q b).2.1 ≤ (q j).2.1) → wY_fire_136 post J kd (nI s.1) (nI s.2.1) (nI s.2.2.1) s.2.2.2 (nI x9) (nI g) l w (nI n) D R.2.2.2.2.2 (nI m) ek et ev la mk pk ps pe pv R.1 R.2.1 R.2.2.1 R.2.2.2.1 R.2.2.2.2.1 (d + 1) (nI b) (nI x) := by
  have hm := H.1
  intro d
  induction d with
  | zero =>
    intro x b hx hb hbl hmin
    have hx' : x = m := by omega
    subst hx'
    obtain ⟨m', rfl⟩ : ∃ m', x = m' + 1 := ⟨x - 1, by omega⟩
    have vb : vp_in (nI b) 32 := vp_in_nI (by omega) (by omega)
    have cb : (nI b).toNatClampNeg = b := nI_clamp (by omega)
    have ab := (H.2 b hb).1
    refine br_t (nI_le (by omega) (by omega)) (br_t (nI_pos' (by omega)) ⟨vb, vb, vb, vb, ?_⟩)
    rw [cb, ab.1, ab.2.1, ab.2.2.1, ab.2.2.2]
    exact yp_emit (yp_rmv H hb (fun pk ps pe pv q' h1 h2 _ => nm_r (nI_1 x9) (K b m' pk ps pe pv q' rfl hb hbl hmin h1 h2)))
  | succ d ih =>
    intro x b hx hb hbl hmin
    have hx1 : x < m := by omega
    have ax := H.2 x hx1
    have ab := H.2 b (by omega)
    have vb : vp_in (nI b) 32 := vp_in_nI (by omega) (by omega)
    have cb : (nI b).toNatClampNeg = b := nI_clamp (by omega)
    have vx : vp_in (nI x) 32 := vp_in_nI (by omega) (by omega)
    have cx : (nI x).toNatClampNeg = x := nI_clamp (by omega)
    have y1 := ax.2.2.1
    have y2 := ab.2.2.1
    refine br_f (nI_ge (by omega) (by omega)) (yp_bel (by omega) ax.1 ax.2 hs (fun z => br_f ew_10 (br_f (nI_pos (by omega)) ⟨vx, vb, ?_⟩)) (fun z => br_t rfl (nm_r (nI_1 x) (ih (x + 1) b (by omega) (by omega) hbl (fun j a u => ?_)))))
    · rw [cb, cx, ax.1.2.1, ab.1.2.1]
      refine ek_if (nI_leI (by omega) (by omega)) (fun z2 => nm_r (nI_1 x) (ih (x + 1) b (by omega) (by omega) hbl (fun j a u => ?_))) (fun z2 => nm_r (nI_1 x) (ih (x + 1) x (by omega) (by omega) z (fun j a u => ?_)))
      · by_cases f : j = x
        · rw [f]
          exact z2
        · exact hmin j (by omega) u
      · by_cases f : j = x
        · rw [f]
          exact Nat.le_refl _
        · have := hmin j (by omega) u
          omega
    · by_cases f : j = x
      · rw [f] at u
        exact absurd u z
      · exact hmin j (by omega) u
theorem yp_136a (H : ew_pa m q pk ps pe pv) (hs : ew_xb s) (K0 : (∀ j, j < m → ¬ ew_bl s (q j)) → wY_fire_244 post kd (nI s.1) (nI s.2.1) (nI s.2.2.1) s.2.2.2 (nI g) l w (nI n) D R.2.2.2.2.2 (nI m) ek et ev la mk pk ps pe pv R.1 R.2.1 R.2.2.1 R.2.2.2.1 R.2.2.2.2.1)
    (K : ∀ b m' pk ps pe pv q', m = m' + 1 → b < m → ew_bl s (q b) → (∀ j, j < m → ew_bl s (q j) → (q b).2.1 ≤ (q j).2.1) → ew_pa m' q' pk ps pe pv → (ew_L q m).Perm (q b :: ew_L q' m') → J (nI (x9 + 1)) (nI g) l w (nI n) D (ew_rt R (q b)).2.2.2.2.2 (nI m') ek et ev la mk pk ps pe pv (ew_rt R (q b)).1 (ew_rt R (q b)).2.1 (ew_rt R (q b)).2.2.1 (ew_rt R (q b)).2.2.2.1 (ew_rt R (q b)).2.2.2.2.1) :
    ∀ d x, x + d = m → (∀ j, j < x → ¬ ew_bl s (q j)) → wY_fire_136 post J kd (nI s.1) (nI s.2.1) (nI s.2.2.1) s.2.2.2 (nI x9) (nI g) l w (nI n) D R.2.2.2.2.2 (nI m) ek et ev la mk pk ps pe pv R.1 R.2.1 R.2.2.1 R.2.2.2.1 R.2.2.2.2.1 (d + 1) (-1) (nI x) := by
  have hm := H.1
  intro d
  induction d with
  | zero =>
    intro x hx hno
    have hx' : x = m := by omega
    subst hx'
    exact br_t (nI_le (by omega) (by omega)) (br_f (by decide) (K0 hno))
  | succ d ih =>
    intro x hx hno
    have hx1 : x < m := by omega
    have ax := H.2 x hx1
    refine br_f (nI_ge (by omega) (by omega)) (yp_bel (by omega) ax.1 ax.2 hs (fun z => br_f ew_10 (br_t (by decide) (nm_r (nI_1 x) (yp_136b H hs K d (x + 1) x (by omega) (by omega) z (fun j a u => ?_))))) (fun z => br_t rfl (nm_r (nI_1 x) (ih (x + 1) (by omega) (fun j a => ?_)))))
    · by_cases f : j = x
      · rw [f]
        exact Nat.le_refl _
      · exact absurd u (hno j (by omega))
    · by_cases f : j = x
      · rw [f]
        exact z
      · exact hno j (by omega)
theorem yp_123 (hs : ew_xb s) {N : List ew_P} (hN : ∀ y, y ∈ N → ¬ ew_bl s y) {R0 : ew_R}
    (K : ∀ m pk ps pe pv q, ew_pa m q pk ps pe pv → (ew_L q m).Perm N → wY_fire_244 post kd (nI s.1) (nI s.2.1) (nI s.2.2.1) s.2.2.2 (nI g) l w (nI n) D R0.2.2.2.2.2 (nI m) ek et ev la mk pk ps pe pv R0.1 R0.2.1 R0.2.2.1 R0.2.2.2.1 R0.2.2.2.2.1) :
    ∀ (B : List ew_P) x9 m pk ps pe pv q R, x9 + B.length ≤ 32 → ew_pa m q pk ps pe pv → (ew_L q m).Perm (B ++ N) → B.Pairwise ew_pl → (∀ y, y ∈ B → ew_bl s y) → B.foldl ew_rt R = R0 → wY_fire_123 post kd (nI s.1) (nI s.2.1) (nI s.2.2.1) s.2.2.2 (B.length + 1) (nI x9) (nI g) l w (nI n) D R.2.2.2.2.2 (nI m) ek et ev la mk pk ps pe pv R.1 R.2.1 R.2.2.1 R.2.2.2.1 R.2.2.2.2.1 := by
  intro B
  induction B with
  | nil =>
    intro x9 m pk ps pe pv q R hl H hp _ _ hR
    have h9 : x9 ≤ 32 := hl
    have hR' : R = R0 := hR
    subst hR'
    refine br_f (nI_nlt (a := 32) h9 (by omega)) ⟨m + 1, yp_136a H hs (fun _ => K m pk ps pe pv q H hp) (fun b m' pk ps pe pv q' h1 h2 h3 => absurd h3 (hN (q b) (hp.mem_iff.mp (ew_Lm.mpr ⟨b, h2, rfl⟩)))) m 0 (by omega) (fun j a => by omega)⟩
  | cons b0 B ih =>
    intro x9 m pk ps pe pv q R hl H hp hsr hB hR
    rw [List.length_cons] at hl
    refine br_f (nI_nlt (a := 32) (show x9 ≤ 32 by omega) (by omega)) ⟨m + 1, yp_136a H hs (fun hno => ?_) (fun b m' pk ps pe pv q' h1 h2 h3 h4 h5 h6 => ?_) m 0 (by omega) (fun j a => by omega)⟩
    · obtain ⟨j, hj, he⟩ := ew_Lm.mp (hp.mem_iff.mpr (List.mem_append.mpr (Or.inl List.mem_cons_self)))
      exact absurd (hB b0 List.mem_cons_self) (he ▸ hno j hj)
    · have hz : q b = b0 := by
        refine ew_pick (s := s) hp hsr hB hN (ew_Lm.mpr ⟨b, h2, rfl⟩) h3 (fun y hy hb => ?_)
        obtain ⟨j, hj, he⟩ := ew_Lm.mp hy
        rw [← he] at hb ⊢
        exact h4 j hj hb
      rw [hz] at h6 ⊢
      exact ih (x9 + 1) m' pk ps pe pv q' (ew_rt R b0) (by omega) h5 (h6.symm.trans hp).cons_inv (List.pairwise_cons.mp hsr).2 (fun y hy => hB y (List.mem_cons_of_mem _ hy)) hR
end
theorem yp_37 (H : ew_pa m q pk ps pe pv) (hs : ew_xb s) {P : List ew_P} (hP : P.Perm (ew_L q m)) {post : SY → Prop} (h1 : ew_B s P = [s] → post (nI g, l, w, nI n, D, c, nI m, ek, et, ev, la, mk, pk, ps, pe, pv, r1, r2, r3, r4, r5)) (h0 : ¬ ew_B s P = [s] → ∃ fu, wY_fire_123 post kd (nI s.1) (nI s.2.1) (nI s.2.2.1) s.2.2.2 fu 0 (nI g) l w (nI n) D c (nI m) ek et ev la mk pk ps pe pv r1 r2 r3 r4 r5) :
    ∀ d x z, x + d = m → z = (if ew_dc (0 < ew_ct (fun i => ew_dc (ew_mt s (q i))) x) = true then (1 : Int32) else 0) → wY_fire_37 post kd (nI s.1) (nI s.2.1) (nI s.2.2.1) s.2.2.2 (nI g) l w (nI n) D c (nI m) ek et ev la mk pk ps pe pv r1 r2 r3 r4 r5 (d + 1) (nI (ew_ct (fun i => ew_dc (ew_bl s (q i))) x)) z (nI x) := by
  have hm := H.1
  intro d
  induction d with
  | zero =>
    intro x z hx hz
    have hx' : x = m := by omega
    subst hx'
    have b1 := ew_ct_le (fun i => ew_dc (ew_bl s (q i))) x
    have sy := ew_syncY (x := s) hP
    refine br_t (nI_le (by omega) (by omega)) (ek_if (nI_eq (b := 1) (by omega) (by omega)) (fun z1 => ?_) (fun z1 => h0 (fun z => z1 (sy.mp z).1)))
    by_cases f : 0 < ew_ct (fun i => ew_dc (ew_mt s (q i))) x
    · rw [if_pos (ew_dcI.mpr f)] at hz
      rw [hz]
      exact br_f ew_10 (h1 (sy.mpr ⟨z1, f⟩))
    · rw [if_neg (fun y => f (ew_dcI.mp y))] at hz
      rw [hz]
      exact br_t rfl (h0 (fun z => f (sy.mp z).2))
  | succ d ih =>
    intro x z hx hz
    have hx1 : x < m := by omega
    have ax := (H.2 x hx1).1
    have v1 : vp_in (nI x) 32 := vp_in_nI (by omega) (by omega)
    have c1 : (nI x).toNatClampNeg = x := nI_clamp (by omega)
    obtain ⟨q1, q2, q3⟩ := (H.2 x hx1).2
    obtain ⟨s1, s2, s3⟩ := id hs
    have no : ¬ ew_mt s (q x) → z = (if ew_dc (0 < ew_ct (fun i => ew_dc (ew_mt s (q i))) (x + 1)) = true then (1 : Int32) else 0) := fun y => by
      rw [hz, ew_ct.eq_2, if_neg (c := ew_dc (ew_mt s (q x)) = true) (fun u => y (ew_dcI.mp u))]
    refine br_f (nI_ge (by omega) (by omega)) (yp_bel (by omega) ax (H.2 x hx1).2 hs (fun hb => br_f ew_10 (nm_r (e' := nI (ew_ct (fun i => ew_dc (ew_bl s (q i))) (x + 1))) ?_ ⟨v1, ?_⟩)) (fun hb => br_t rfl (nm_r (nI_1 x) ?_)))
    · rw [nI_1, ew_ct, if_pos (ew_dcI.mpr hb)]
    · rw [c1, ax.2.1, ax.2.2.1, ax.2.2.2]
      refine ek_if (nI_eq (by omega) (by omega)) (fun z1 => ⟨v1, ek_if (nI_eq (by omega) (by omega)) (fun z2 => ⟨v1, br_c (fun z3 => nm_r (nI_1 x) (ih (x + 1) 1 (by omega) ?_)) (fun z3 => nm_r (nI_1 x) (ih (x + 1) z (by omega) (no (fun y => z3 y.2.2.2))))⟩) (fun z2 => nm_r (nI_1 x) (ih (x + 1) z (by omega) (no (fun y => z2 y.2.2.1))))⟩) (fun z1 => nm_r (nI_1 x) (ih (x + 1) z (by omega) (no (fun y => z1 y.2.1))))
      rw [if_pos]
      exact ew_dcI.mpr ((ew_ct_pos (x + 1)).mpr ⟨x, by omega, ew_dcI.mpr ⟨hb, z1, z2, z3⟩⟩)
    · have IH := ih (x + 1) z (by omega) (no (fun y => hb y.1))
      rw [ew_ct.eq_2, if_neg (fun u => hb (ew_dcI.mp u))] at IH
      exact IH
/-- firing, as Y does it -/
theorem ya_fire (H : ew_yv g n e lb ek et ev la) (HP : ew_pa m q pk ps pe pv) {P : List ew_P} (hP : P.Perm (ew_L q m)) (HG : ew_G g (ew_L e n) P) (hr : r < n) (hrr : lb r = r) {post : SY → Prop}
    (K : ∀ k pk ps pe pv q', ew_pa k q' pk ps pe pv → (ew_fi kd (P, R) (ew_ss g (ew_L e n) (ew_ks g e n r))).1.Perm (ew_L q' k) → post (nI g, l, w, nI n, D, (ew_fi kd (P, R) (ew_ss g (ew_L e n) (ew_ks g e n r))).2.2.2.2.2.2, nI k, ek, et, ev, la, mk, pk, ps, pe, pv, (ew_fi kd (P, R) (ew_ss g (ew_L e n) (ew_ks g e n r))).2.1, (ew_fi kd (P, R) (ew_ss g (ew_L e n) (ew_ks g e n r))).2.2.1, (ew_fi kd (P, R) (ew_ss g (ew_L e n) (ew_ks g e n r))).2.2.2.1, (ew_fi kd (P, R) (ew_ss g (ew_L e n) (ew_ks g e n r))).2.2.2.2.1, (ew_fi kd (P, R) (ew_ss g (ew_L e n) (ew_ks g e n r))).2.2.2.2.2.1)) : wpY_fire post (nI g, l, w, nI n, D, R.2.2.2.2.2, nI m, ek, et, ev, la, mk, pk, ps, pe, pv, R.1, R.2.1, R.2.2.1, R.2.2.2.1, R.2.2.2.2.1) (nI r) kd := by
  obtain ⟨⟨hg, hg2, hn, hE, hb⟩, hl, hlb⟩ := id H
  have v1 : vp_in (nI r) 32 := vp_in_nI (by omega) (by omega)
  have c1 : (nI r).toNatClampNeg = r := nI_clamp (by omega)
  have hs : ew_xb (ew_ss g (ew_L e n) (ew_ks g e n r)) := by
    have := ew_okS (l := 0) (W := 0) (ks := ew_ks g e n r) (e := e) (n := n) (g := g) ⟨hg, hg2, by omega, by omega, hn, hb⟩ (ew_ks_O hr)
    exact ⟨this.1, by omega, this.2.2⟩
  have hN : ∀ y, y ∈ ew_N (ew_ss g (ew_L e n) (ew_ks g e n r)) P → ¬ ew_bl (ew_ss g (ew_L e n) (ew_ks g e n r)) y := fun y hy => (ew_N_m.mp hy).2
  have hBl : (ew_B (ew_ss g (ew_L e n) (ew_ks g e n r)) P).length ≤ 32 := Nat.le_trans (List.length_filter_le _ _) HG.2.2
  refine ⟨v1, nm_r (e' := nI (ew_ss g (ew_L e n) (ew_ks g e n r)).1) (by rw [c1, (hE r hr).1]; rfl) (ya_st H hr hrr (ya_en H hr hrr (ya_sm H hr hrr ⟨m + 1, ?_⟩)))⟩
  refine yp_37 (s := ew_ss g (ew_L e n) (ew_ks g e n r)) HP hs hP (fun z => ?_) (fun z => ⟨(ew_B (ew_ss g (ew_L e n) (ew_ks g e n r)) P).length + 1, ?_⟩) m 0 0 (by omega) ?_
  · have := K m pk ps pe pv q HP
    rw [ew_fi_y (st := (P, R)) z] at this
    exact this hP
  · refine yp_123 hs hN (R0 := (ew_B (ew_ss g (ew_L e n) (ew_ks g e n r)) P).foldl ew_rt R) (fun m' pk ps pe pv q' h1 h2 => yp_244 h1 hs (fun k pk ps pe pv q'' h3 h4 => ?_)) (ew_B (ew_ss g (ew_L e n) (ew_ks g e n r)) P) 0 m pk ps pe pv q R (by omega) HP (hP.symm.trans (ew_BN _ P)) (ew_B_p _ HG.1) (fun y hy => (ew_B_m.mp hy).2) rfl
    have K' := K k pk ps pe pv q'' h3
    rw [ew_fi_n (st := (P, R)) z] at K'
    refine K' ?_
    have hlen : m' = (ew_N (ew_ss g (ew_L e n) (ew_ks g e n r)) P).length := by
      rw [← h2.length_eq, ew_Ll]
    rw [h4, ← hlen]
    dsimp only
    by_cases f : m' < 32
    · rw [if_pos f, if_pos f]
      exact (ew_ins_p _ _).trans ((h2.symm.cons _).trans (List.perm_append_singleton _ _).symm)
    · rw [if_neg f, if_neg f]
      exact h2.symm
  · rw [if_neg]
    exact fun y => absurd (ew_dcI.mp y) (Nat.lt_irrefl 0)
theorem yp_dr0 (hs : ew_xb s) {P : List ew_P} {post : SY → Prop} (K : ∀ m pk ps pe pv q, ew_pa m q pk ps pe pv → (ew_N s P).Perm (ew_L q m) → post (nI g, l, w, nI n, D, c, nI m, ek, et, ev, la, mk, pk, ps, pe, pv, r1, r2, r3, r4, r5)) :
    ∀ d p kk m pk ps pe pv q, p + d = m → kk + d ≤ 69 → ew_pa m q pk ps pe pv → (∀ j, j < p → ¬ ew_bl s (q j)) → (ew_N s P).Perm (ew_N s (ew_L q m)) → wY_dropPanesOf_26 post (nI s.1) (nI s.2.1) (nI s.2.2.1) (d + 1) (nI p) (nI kk) (nI g) l w (nI n) D c (nI m) ek et ev la mk pk ps pe pv r1 r2 r3 r4 r5 := by
  intro d
  induction d with
  | zero =>
    intro p kk m pk ps pe pv q hp hk H hno hN
    have hm := H.1
    refine br_f (nI_ge (b := 70) (by omega) (by omega)) (br_t (nI_le (by omega) (by omega)) (K m pk ps pe pv q H ?_))
    have e1 : ew_N s (ew_L q m) = ew_L q m := by
      refine ew_filt_all (fun y hy => ew_dcI.mpr ?_)
      obtain ⟨j, hj, he⟩ := ew_Lm.mp hy
      rw [← he]
      exact hno j (by omega)
    rw [e1] at hN
    exact hN
  | succ d ih =>
    intro p kk m pk ps pe pv q hp hk H hno hN
    have hm := H.1
    have ap := H.2 p (by omega)
    obtain ⟨m', rfl⟩ : ∃ m', m = m' + 1 := ⟨m - 1, by omega⟩
    refine br_f (nI_ge (b := 70) (by omega) (by omega)) (br_f (nI_ge (by omega) (by omega)) (yp_bel (by omega) ap.1 ap.2 hs (fun z => br_f ew_10 (yp_rmv H (by omega) (fun pk ps pe pv q' h1 h2 h3 => nm_r (nI_1 kk) (ih p (kk + 1) m' pk ps pe pv q' (by omega) (by omega) h1 (fun j a => by rw [h3 j (by omega)]; exact hno j a) ?_)))) (fun z => br_t rfl (nm_r (nI_1 p) (nm_r (nI_1 kk) (ih (p + 1) (kk + 1) (m' + 1) pk ps pe pv q (by omega) (by omega) H (fun j a => ?_) hN))))))
    · have e1 : (ew_N s (ew_L q (m' + 1))).Perm (ew_N s (q p :: ew_L q' m')) := h2.filter _
      have e2 : ew_N s (q p :: ew_L q' m') = ew_N s (ew_L q' m') := by
        unfold ew_N
        rw [List.filter_cons_of_neg (p := fun y => ew_dc (¬ ew_bl s y)) (fun u => (ew_dcI.mp u) z)]
      rw [e2] at e1
      exact hN.trans e1
    · by_cases f : j = p
      · rw [f]
        exact z
      · exact hno j (by omega)
theorem ya_drop (H : ew_yv g n e lb ek et ev la) (HP : ew_pa m q pk ps pe pv) {P : List ew_P} (hP : P.Perm (ew_L q m)) (hr : r < n) (hrr : lb r = r) {post : SY → Prop}
    (K : ∀ k pk ps pe pv q', ew_pa k q' pk ps pe pv → (ew_N (ew_ss g (ew_L e n) (ew_ks g e n r)) P).Perm (ew_L q' k) → post (nI g, l, w, nI n, D, c, nI k, ek, et, ev, la, mk, pk, ps, pe, pv, r1, r2, r3, r4, r5)) : wpY_dropPanesOf post (nI g, l, w, nI n, D, c, nI m, ek, et, ev, la, mk, pk, ps, pe, pv, r1, r2, r3, r4, r5) (nI r) := by
  obtain ⟨⟨hg, hg2, hn, hE, hb⟩, hl, hlb⟩ := id H
  have hm := HP.1
  have v1 : vp_in (nI r) 32 := vp_in_nI (by omega) (by omega)
  have c1 : (nI r).toNatClampNeg = r := nI_clamp (by omega)
  have hs : ew_xb (ew_ss g (ew_L e n) (ew_ks g e n r)) := by
    have := ew_okS (l := 0) (W := 0) (ks := ew_ks g e n r) (e := e) (n := n) (g := g) ⟨hg, hg2, by omega, by omega, hn, hb⟩ (ew_ks_O hr)
    exact ⟨this.1, by omega, this.2.2⟩
  exact ⟨v1, nm_r (e' := nI (ew_ss g (ew_L e n) (ew_ks g e n r)).1) (by rw [c1, (hE r hr).1]; rfl) (ya_st H hr hrr (ya_en H hr hrr ⟨m + 1, yp_dr0 (s := ew_ss g (ew_L e n) (ew_ks g e n r)) hs K m 0 0 m pk ps pe pv q (by omega) (by omega) HP (fun j a => by omega) (hP.filter _)⟩))⟩
end
