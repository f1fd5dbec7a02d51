/-! Y: what reads alone -/
section
def ew_yv (g n : Nat) (e : Nat → ew_E) (lb : Nat → Nat) (ek et ev la : Nat → Int32) : Prop := ew_ev g n e ek et ev ∧ (∀ i, i < n → la i = nI (lb i)) ∧ ew_lab g e n lb
variable {g n m i j q x k r : Nat} {l w D c : Int32} {ek et ev la mk pk ps pe pv r1 r2 r3 r4 r5 : Nat → Int32} {e : Nat → ew_E} {lb : Nat → Nat}
theorem ya_st0 (H : ew_yv g n e lb ek et ev la) (hr : r < n) {post : Int32 → Prop} (hp : post (nI (ew_mn (fun j => lb j = r) (fun j => (e j).2.1) n))) :
    ∀ d x, x + d = n → wY_sStart_5 post (nI r) (nI g) l w (nI n) D c (nI m) ek et ev la mk pk ps pe pv r1 r2 r3 r4 r5 (d + 1) (nI (ew_mn (fun j => lb j = r) (fun j => (e j).2.1) x)) (nI x) := by
  obtain ⟨⟨hg, hg2, hn, hE, hb⟩, hl, hlb⟩ := id H
  intro d
  induction d with
  | zero =>
    intro x hx
    have hx' : x = n := by omega
    subst hx'
    exact br_t (nI_le (by omega) (by omega)) hp
  | succ d ih =>
    intro x hx
    have hx1 : x < n := by omega
    have v1 : vp_in (nI x) 32 := vp_in_nI (by omega) (by omega)
    have c1 : (nI x).toNatClampNeg = x := nI_clamp (by omega)
    have u1 := ew_mn_u (p := fun j => lb j = r) (T := fun j => (e j).2.1) x
    have b1 := hb x hx1
    have b2 := (hlb x hx1).1
    have IH := ih (x + 1) (by omega)
    refine br_f (nI_ge (by omega) (by omega)) ⟨v1, ?_⟩
    rw [c1, hl x hx1, (hE x hx1).2.1]
    refine ek_if (nI_eq (by omega) (by omega)) (fun z1 => ⟨v1, ek_if (nI_leI (by omega) (by omega)) (fun z2 => nm_r (nI_1 x) ?_) (fun z2 => ⟨v1, nm_e (nm_r (nI_1 x) ?_)⟩)⟩) (fun z1 => nm_r (nI_1 x) ?_)
    · rw [ew_mn_n (p := fun j => lb j = r) (T := fun j => (e j).2.1) (m := x) (fun z => by have := z.2; omega)] at IH
      exact IH
    · rw [ew_mn_y (p := fun j => lb j = r) (T := fun j => (e j).2.1) (m := x) ⟨z1, by omega⟩] at IH
      exact IH
    · rw [ew_mn_n (p := fun j => lb j = r) (T := fun j => (e j).2.1) (m := x) (fun z => z1 z.1)] at IH
      exact IH
theorem ya_st (H : ew_yv g n e lb ek et ev la) (hr : r < n) (hrr : lb r = r) {post : Int32 → Prop} (hp : post (nI (ew_ks g e n r).2)) : wpY_sStart post (nI g, l, w, nI n, D, c, nI m, ek, et, ev, la, mk, pk, ps, pe, pv, r1, r2, r3, r4, r5) (nI r) := by
  rw [← ew_mnY (fun i hi => (H.1.2.2.2.2 i hi).2) H.2.2 hr hrr] at hp
  exact ⟨n + 1, ya_st0 H hr hp n 0 (by omega)⟩
theorem ew_cmp {t v : Nat} (h1 : t ≤ 1000000) (h2 : v ≤ 1000001) : nI t ≤ nI v - 1 ↔ t + 1 ≤ v := by
  show nI t ≤ nI v - nI 1 ↔ _
  rw [Int32.le_iff_toInt_le, pk_sub_toInt (by omega) (by omega), nI_toInt (by omega)]
  omega
theorem ew_mr_u {p : Nat → Prop} {T : Nat → Nat} : ∀ m, (∀ j, j < m → T j ≤ 1000000) → ew_mr p T m ≤ 1000001 := by
  intro m h
  rcases ew_mr_mem (p := p) (T := T) m with z | ⟨j, hj, _, z⟩
  · omega
  · have := h j hj
    omega
theorem ya_en0 (H : ew_yv g n e lb ek et ev la) (hr : r < n) {post : Int32 → Prop} (hp : post (nI (ew_mr (fun j => lb j = r) (fun j => (e j).2.1) n) - 1 + nI g)) :
    ∀ d x, x + d = n → wY_sEnd_4 post (nI r) (nI g) l w (nI n) D c (nI m) ek et ev la mk pk ps pe pv r1 r2 r3 r4 r5 (d + 1) (nI (ew_mr (fun j => lb j = r) (fun j => (e j).2.1) x) - 1) (nI x) := by
  obtain ⟨⟨hg, hg2, hn, hE, hb⟩, hl, hlb⟩ := id H
  intro d
  induction d with
  | zero =>
    intro x hx
    have hx' : x = n := by omega
    subst hx'
    exact br_t (nI_le (by omega) (by omega)) hp
  | succ d ih =>
    intro x hx
    have hx1 : x < n := by omega
    have v1 : vp_in (nI x) 32 := vp_in_nI (by omega) (by omega)
    have c1 : (nI x).toNatClampNeg = x := nI_clamp (by omega)
    have u1 := ew_mr_u (p := fun j => lb j = r) (T := fun j => (e j).2.1) x (fun j hj => (hb j (by omega)).2)
    have b1 := hb x hx1
    have b2 := (hlb x hx1).1
    have IH := ih (x + 1) (by omega)
    refine br_f (nI_ge (by omega) (by omega)) ⟨v1, ?_⟩
    rw [c1, hl x hx1, (hE x hx1).2.1]
    refine ek_if (nI_eq (by omega) (by omega)) (fun z1 => ⟨v1, ek_if (ew_cmp (by omega) u1) (fun z2 => nm_r (nI_1 x) ?_) (fun z2 => ⟨v1, nm_e (nm_r (nI_1 x) ?_)⟩)⟩) (fun z1 => nm_r (nI_1 x) ?_)
    · rw [ew_mr_n (p := fun j => lb j = r) (T := fun j => (e j).2.1) (m := x) (fun z => by have := z.2; omega)] at IH
      exact IH
    · rw [ew_mr_y (p := fun j => lb j = r) (T := fun j => (e j).2.1) (m := x) ⟨z1, by omega⟩, nI_pred] at IH
      exact IH
    · rw [ew_mr_n (p := fun j => lb j = r) (T := fun j => (e j).2.1) (m := x) (fun z => z1 z.1)] at IH
      exact IH
theorem ya_en (H : ew_yv g n e lb ek et ev la) (hr : r < n) (hrr : lb r = r) {post : Int32 → Prop} (hp : post (nI (ew_ss g (ew_L e n) (ew_ks g e n r)).2.2.1)) : wpY_sEnd post (nI g, l, w, nI n, D, c, nI m, ek, et, ev, la, mk, pk, ps, pe, pv, r1, r2, r3, r4, r5) (nI r) := by
  obtain ⟨b, h1, h2⟩ := ew_mrY H.2.2 hr hrr
  refine ⟨n + 1, ?_⟩
  have := ya_en0 (l := l) (w := w) (D := D) (m := m) (c := c) (mk := mk) (pk := pk) (ps := ps) (pe := pe) (pv := pv) (r1 := r1) (r2 := r2) (r3 := r3) (r4 := r4) (r5 := r5) H hr (post := post) (by rw [h1, nI_pred, nI_add, ← h2]; exact hp) n 0 (by omega)
  exact this
theorem ya_sm0 (H : ew_yv g n e lb ek et ev la) (hr : r < n) {post : Int32 → Prop} (hp : post (ew_su (fun j => ew_dc (lb j = r)) (fun j => (e j).2.2) n)) :
    ∀ d x, x + d = n → wY_sSum_4 post (nI r) (nI g) l w (nI n) D c (nI m) ek et ev la mk pk ps pe pv r1 r2 r3 r4 r5 (d + 1) (ew_su (fun j => ew_dc (lb j = r)) (fun j => (e j).2.2) x) (nI x) := by
  obtain ⟨⟨hg, hg2, hn, hE, hb⟩, hl, hlb⟩ := id H
  intro d
  induction d with
  | zero =>
    intro x hx
    have hx' : x = n := by omega
    subst hx'
    exact br_t (nI_le (by omega) (by omega)) hp
  | succ d ih =>
    intro x hx
    have hx1 : x < n := by omega
    have v1 : vp_in (nI x) 32 := vp_in_nI (by omega) (by omega)
    have c1 : (nI x).toNatClampNeg = x := nI_clamp (by omega)
    have b2 := (hlb x hx1).1
    have IH := ih (x + 1) (by omega)
    rw [ew_su] at IH
    refine br_f (nI_ge (by omega) (by omega)) ⟨v1, ?_⟩
    rw [c1, hl x hx1, (hE x hx1).2.2]
    refine ek_if (nI_eq (by omega) (by omega)) (fun z1 => ⟨v1, nm_e (nm_r (nI_1 x) ?_)⟩) (fun z1 => nm_r (nI_1 x) ?_)
    · rw [if_pos (ew_dcI.mpr z1)] at IH
      exact IH
    · rw [if_neg (fun z => z1 (ew_dcI.mp z))] at IH
      exact IH
theorem ya_sm (H : ew_yv g n e lb ek et ev la) (hr : r < n) (hrr : lb r = r) {post : Int32 → Prop} (hp : post (ew_ss g (ew_L e n) (ew_ks g e n r)).2.2.2) : wpY_sSum post (nI g, l, w, nI n, D, c, nI m, ek, et, ev, la, mk, pk, ps, pe, pv, r1, r2, r3, r4, r5) (nI r) := by
  rw [← ew_smY H.2.2 hr hrr] at hp
  exact ⟨n + 1, ya_sm0 H hr hp n 0 (by omega)⟩
theorem ya_ct0 (H : ew_yv g n e lb ek et ev la) (hr : r < n) {post : Int32 → Prop} (hp : post (nI (ew_ct (fun j => ew_dc (lb j = r)) n))) :
    ∀ d x, x + d = n → wY_sCnt_4 post (nI r) (nI g) l w (nI n) D c (nI m) ek et ev la mk pk ps pe pv r1 r2 r3 r4 r5 (d + 1) (nI (ew_ct (fun j => ew_dc (lb j = r)) x)) (nI x) := by
  obtain ⟨⟨hg, hg2, hn, hE, hb⟩, hl, hlb⟩ := id H
  intro d
  induction d with
  | zero =>
    intro x hx
    have hx' : x = n := by omega
    subst hx'
    exact br_t (nI_le (by omega) (by omega)) hp
  | succ d ih =>
    intro x hx
    have hx1 : x < n := by omega
    have v1 : vp_in (nI x) 32 := vp_in_nI (by omega) (by omega)
    have c1 : (nI x).toNatClampNeg = x := nI_clamp (by omega)
    have b2 := (hlb x hx1).1
    have IH := ih (x + 1) (by omega)
    rw [ew_ct] at IH
    refine br_f (nI_ge (by omega) (by omega)) ⟨v1, ?_⟩
    rw [c1, hl x hx1]
    refine ek_if (nI_eq (by omega) (by omega)) (fun z1 => nm_r (nI_1 _) (nm_r (nI_1 x) ?_)) (fun z1 => nm_r (nI_1 x) ?_)
    · rw [if_pos (ew_dcI.mpr z1)] at IH
      exact IH
    · rw [if_neg (fun z => z1 (ew_dcI.mp z))] at IH
      exact IH
theorem ya_ct (H : ew_yv g n e lb ek et ev la) (hr : r < n) (hrr : lb r = r) {post : Int32 → Prop} (hp : post (nI (ew_sc g (ew_L e n) (ew_ks g e n r)))) : wpY_sCnt post (nI g, l, w, nI n, D, c, nI m, ek, et, ev, la, mk, pk, ps, pe, pv, r1, r2, r3, r4, r5) (nI r) := by
  rw [← ew_scY H.2.2 hr hrr] at hp
  exact ⟨n + 1, ya_ct0 H hr hp n 0 (by omega)⟩
theorem ya_sc0 (H : ew_yv g n e lb ek et ev la) {post : Int32 → Prop} (hp : post (nI (ew_ct (fun j => ew_dc (lb j = j)) n))) :
    ∀ d x, x + d = n → wY_sessionCount_4 post (nI g) l w (nI n) D c (nI m) ek et ev la mk pk ps pe pv r1 r2 r3 r4 r5 (d + 1) (nI (ew_ct (fun j => ew_dc (lb j = j)) x)) (nI x) := by
  obtain ⟨⟨hg, hg2, hn, hE, hb⟩, hl, hlb⟩ := id H
  intro d
  induction d with
  | zero =>
    intro x hx
    have hx' : x = n := by omega
    subst hx'
    exact br_t (nI_le (by omega) (by omega)) hp
  | succ d ih =>
    intro x hx
    have hx1 : x < n := by omega
    have v1 : vp_in (nI x) 32 := vp_in_nI (by omega) (by omega)
    have c1 : (nI x).toNatClampNeg = x := nI_clamp (by omega)
    have b2 := (hlb x hx1).1
    have IH := ih (x + 1) (by omega)
    rw [ew_ct] at IH
    refine br_f (nI_ge (by omega) (by omega)) ⟨v1, ?_⟩
    rw [c1, hl x hx1]
    refine ek_if (nI_eq (by omega) (by omega)) (fun z1 => nm_r (nI_1 _) (nm_r (nI_1 x) ?_)) (fun z1 => nm_r (nI_1 x) ?_)
    · rw [if_pos (ew_dcI.mpr z1)] at IH
      exact IH
    · rw [if_neg (fun z => z1 (ew_dcI.mp z))] at IH
      exact IH
theorem ya_sc (H : ew_yv g n e lb ek et ev la) {post : Int32 → Prop} (hp : post (nI (ew_ct (fun j => ew_dc (lb j = j)) n))) : wpY_sessionCount post (nI g, l, w, nI n, D, c, nI m, ek, et, ev, la, mk, pk, ps, pe, pv, r1, r2, r3, r4, r5) :=
  ⟨n + 1, ya_sc0 H hp n 0 (by omega)⟩
theorem ew_ksb (H : ew_yv g n e lb ek et ev la) (hr : r < n) : (ew_ks g e n r).2 ≤ 1000000 := by
  obtain ⟨j, hj, _, h2⟩ := ew_ML.mp (ew_ks_O (g := g) (e := e) hr).1
  have := (H.1.2.2.2.2 j hj).2
  omega
theorem ya_rk0 (H : ew_yv g n e lb ek et ev la) (hr : r < n) {post : Int32 → Prop} (hp : post (nI (ew_ct (fun q => ew_dc (lb q = q ∧ ew_lt (ew_ks g e n q) (ew_ks g e n r))) n))) :
    ∀ d x, x + d = n → wY_rank_11 post (nI r) (nI (ew_ks g e n r).2) (nI g) l w (nI n) D c (nI m) ek et ev la mk pk ps pe pv r1 r2 r3 r4 r5 (d + 1) (nI (ew_ct (fun q => ew_dc (lb q = q ∧ ew_lt (ew_ks g e n q) (ew_ks g e n r))) x)) (nI x) := by
  obtain ⟨⟨hg, hg2, hn, hE, hb⟩, hl, hlb⟩ := id H
  intro d
  induction d with
  | zero =>
    intro x hx
    have hx' : x = n := by omega
    subst hx'
    exact br_t (nI_le (by omega) (by omega)) hp
  | succ d ih =>
    intro x hx
    have hx1 : x < n := by omega
    have v1 : vp_in (nI x) 32 := vp_in_nI (by omega) (by omega)
    have c1 : (nI x).toNatClampNeg = x := nI_clamp (by omega)
    have v2 : vp_in (nI r) 32 := vp_in_nI (by omega) (by omega)
    have c2 : (nI r).toNatClampNeg = r := nI_clamp (by omega)
    have b2 := (hlb x hx1).1
    have b3 := hb x hx1
    have b4 := hb r hr
    have b5 := ew_ksb H hr
    have b6 := ew_ksb H hx1
    have IH := ih (x + 1) (by omega)
    rw [ew_ct] at IH
    have ltI : ew_lt (ew_ks g e n x) (ew_ks g e n r) ↔ ((e x).1 < (e r).1 ∨ ((e x).1 = (e r).1 ∧ (ew_ks g e n x).2 < (ew_ks g e n r).2)) := Iff.rfl
    refine br_f (nI_ge (by omega) (by omega)) ⟨v1, ?_⟩
    rw [c1, c2, hl x hx1, (hE x hx1).1, (hE r hr).1]
    refine ek_if (nI_eq (by omega) (by omega)) (fun z1 => ek_if (nI_eq (by omega) (by omega)) (fun z2 => nm_r (nI_1 x) ?_) (fun z2 => ⟨v1, v2, ek_if (nI_leI (by omega) (by omega)) (fun z3 => ⟨v1, v2, ek_if (nI_eq (by omega) (by omega)) (fun z4 => ya_st H hx1 z1 (ek_if (nI_leI (by omega) (by omega)) (fun z5 => nm_r (nI_1 x) ?_) (fun z5 => nm_r (nI_1 _) (nm_r (nI_1 x) ?_)))) (fun z4 => nm_r (nI_1 x) ?_)⟩) (fun z3 => nm_r (nI_1 _) (nm_r (nI_1 x) ?_))⟩)) (fun z1 => nm_r (nI_1 x) ?_)
    · rw [if_neg] at IH
      · exact IH
      · intro z
        have := (ew_dcI.mp z).2
        rw [z2] at this
        exact ew_lt_as this this
    · rw [if_neg (fun z => by have := ltI.mp (ew_dcI.mp z).2; omega)] at IH
      exact IH
    · rw [if_pos (ew_dcI.mpr ⟨z1, ltI.mpr (by omega)⟩)] at IH
      exact IH
    · rw [if_neg (fun z => by have := ltI.mp (ew_dcI.mp z).2; omega)] at IH
      exact IH
    · rw [if_pos (ew_dcI.mpr ⟨z1, ltI.mpr (by omega)⟩)] at IH
      exact IH
    · rw [if_neg (fun z => z1 (ew_dcI.mp z).1)] at IH
      exact IH
theorem ya_rk (H : ew_yv g n e lb ek et ev la) (hr : r < n) (hrr : lb r = r) {post : Int32 → Prop} (hp : post (nI (ew_ct (fun q => ew_dc (lb q = q ∧ ew_lt (ew_ks g e n q) (ew_ks g e n r))) n))) : wpY_rank post (nI g, l, w, nI n, D, c, nI m, ek, et, ev, la, mk, pk, ps, pe, pv, r1, r2, r3, r4, r5) (nI r) :=
  ya_st H hr hrr ⟨n + 1, ya_rk0 H hr hp n 0 (by omega)⟩
theorem ya_rp0 (H : ew_yv g n e lb ek et ev la) (hi : i < n) {post : Int32 → Prop} (hp : ∀ r, r < n → lb r = r → ew_ct (fun q => ew_dc (lb q = q ∧ ew_lt (ew_ks g e n q) (ew_ks g e n r))) n = i → post (nI r))
    (hx : ∃ r, r < n ∧ lb r = r ∧ ew_ct (fun q => ew_dc (lb q = q ∧ ew_lt (ew_ks g e n q) (ew_ks g e n r))) n = i) :
    ∀ d x, x + d = n → (∀ r, r < x → lb r = r → ew_ct (fun q => ew_dc (lb q = q ∧ ew_lt (ew_ks g e n q) (ew_ks g e n r))) n ≠ i) → wY_repAt_2 post (nI i) (nI g) l w (nI n) D c (nI m) ek et ev la mk pk ps pe pv r1 r2 r3 r4 r5 (d + 1) (nI x) := by
  obtain ⟨⟨hg, hg2, hn, hE, hb⟩, hl, hlb⟩ := id H
  intro d
  induction d with
  | zero =>
    intro x h0 h1
    obtain ⟨r, a1, a2, a3⟩ := hx
    exact absurd a3 (h1 r (by omega) a2)
  | succ d ih =>
    intro x h0 h1
    have hx1 : x < n := by omega
    have v1 : vp_in (nI x) 32 := vp_in_nI (by omega) (by omega)
    have c1 : (nI x).toNatClampNeg = x := nI_clamp (by omega)
    have b2 := (hlb x hx1).1
    have b3 := ew_ct_le (fun q => ew_dc (lb q = q ∧ ew_lt (ew_ks g e n q) (ew_ks g e n x))) n
    refine br_f (nI_ge (by omega) (by omega)) ⟨v1, ?_⟩
    rw [c1, hl x hx1]
    refine ek_if (nI_eq (by omega) (by omega)) (fun z1 => ya_rk H hx1 z1 (ek_if (nI_eq (by omega) (by omega)) (fun z2 => hp x hx1 z1 z2) (fun z2 => nm_r (nI_1 x) (ih (x + 1) (by omega) (fun r a b => ?_))))) (fun z1 => nm_r (nI_1 x) (ih (x + 1) (by omega) (fun r a b => ?_)))
    · by_cases f : r = x
      · subst f
        exact z2
      · exact h1 r (by omega) b
    · by_cases f : r = x
      · subst f
        exact absurd b z1
      · exact h1 r (by omega) b
theorem ya_rp (H : ew_yv g n e lb ek et ev la) {f : Nat → ew_E} (hp : (ew_L f n).Perm (ew_L e n)) (hs : ew_srt f n) (hi : i < (ew_xl g f n).length) {post : Int32 → Prop} (K : ∀ r, r < n → lb r = r → (ew_xl g f n)[i]? = some (ew_ks g e n r) → post (nI r)) : wpY_repAt post (nI g, l, w, nI n, D, c, nI m, ek, et, ev, la, mk, pk, ps, pe, pv, r1, r2, r3, r4, r5) (nI i) := by
  have hg := H.1.1
  have hle : (ew_xl g f n).length ≤ n := by
    rw [ew_xl_l]
    exact ew_ct_le _ n
  exact ⟨n + 1, ya_rp0 H (by omega) (fun r a b z => K r a b (ew_rankx hp hs hg H.2.2 a b z)) (ew_repx hp hs hg H.2.2 hi) n 0 (by omega) (fun r a => by omega)⟩
end
