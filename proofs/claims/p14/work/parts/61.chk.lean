/-! the law's last loops: records against sessions -/
section
def fw_m (y p : ew_P) : Prop := p.1 = y.1 ∧ p.2.1 = y.2.1 ∧ p.2.2.1 = y.2.2.1
noncomputable def fw_fc (y p : ew_P) : Int64 := if ew_dc (fw_m y p) = true then 1 else 0
noncomputable def fw_fv (y p : ew_P) : Int64 := if ew_dc (fw_m y p) = true then p.2.2.2.toInt64 else 0
variable {g n m bn bm : Nat} {l w D c bD bc : Int32} {ak aT av pk ps pe pv r1 r2 r3 r4 r5 bk bT bv b4 b5 b6 b7 q1 q2 q3 q4 q5 : Nat → Int32} {f : Nat → ew_E} {R : ew_R} {Lg : List (Int32 × ew_P)} {y : ew_P}
theorem xq_rec {i : Nat} {x : Int32 × ew_P} {post : Int32 → Prop} {z : Int32} (h : fw_R Lg R) (hi : Lg[i]? = some x) (hz : z = 0 ∧ post x.1 ∨ z = 1 ∧ post (nI x.2.1) ∨ z = 2 ∧ post (nI x.2.2.1) ∨ z = 3 ∧ post (nI x.2.2.2.1) ∨ z = 4 ∧ post x.2.2.2.2) : wpX_recordField post (nI g, l, w, D, nI n, nI m, R.2.2.2.2.2, ak, aT, av, pk, ps, pe, pv, R.1, R.2.1, R.2.2.1, R.2.2.2.1, R.2.2.2.2.1) (nI i) z := by
  obtain ⟨h1, h2, h3⟩ := h
  have hl := (List.getElem?_eq_some_iff.mp hi).1
  obtain ⟨k1, k2, k3, k4, k5⟩ := h3 i x hi
  have e1 : nI i &&& 63 = nI i := by
    rw [pk_and _ 6 (by decide), pk_tn (by omega), Nat.mod_eq_of_lt (by omega)]
  have v1 : vp_in (nI i) 64 := vp_in_nI (by omega) (by omega)
  have c1 : (nI i).toNatClampNeg = i := nI_clamp (by omega)
  have g2 : ¬ R.2.2.2.2.2 ≤ nI i := by
    rw [h2]
    exact nI_ge hl (by omega)
  have g3 : R.2.2.2.2.2 - 64 ≤ nI i := by
    rw [h2]
    show nI Lg.length - nI 64 ≤ nI i
    rw [Int32.le_iff_toInt_le, pk_sub_toInt (by omega) (by omega), nI_toInt (by omega)]
    omega
  refine br_f (nI_pos (by omega)) (br_f g2 (br_t g3 (nm_r e1 ?_)))
  rw [c1, k1, k2, k3, k4, k5]
  rcases hz with ⟨rfl, hp⟩ | ⟨rfl, hp⟩ | ⟨rfl, hp⟩ | ⟨rfl, hp⟩ | ⟨rfl, hp⟩
  · exact br_f (by decide) (br_f (by decide) (br_t rfl ⟨v1, hp⟩))
  · exact br_f (by decide) (br_f (by decide) (br_f (by decide) (br_t rfl ⟨v1, hp⟩)))
  · exact br_f (by decide) (br_f (by decide) (br_f (by decide) (br_f (by decide) (br_t rfl ⟨v1, hp⟩))))
  · exact br_f (by decide) (br_f (by decide) (br_f (by decide) (br_f (by decide) (br_f (by decide) (br_t rfl ⟨v1, hp⟩)))))
  · exact br_f (by decide) (br_f (by decide) (br_f (by decide) (br_f (by decide) (br_f (by decide) (br_f (by decide) (br_t rfl ⟨v1, hp⟩))))))
/-- a field of the second object's session at place j -/
theorem xq_ses {j : Nat} {s : ew_P} {z : Int32} {post : Int32 → Prop} (H : ew_ev g bn f bk bT bv) (Hs : ew_srt f bn) (hs : ((ew_xl g f bn).map (ew_ss g (ew_L f bn)))[j]? = some s) (hz : z = 1 ∧ post (nI s.1) ∨ z = 2 ∧ post (nI s.2.1) ∨ z = 3 ∧ post (nI s.2.2.1) ∨ z = 4 ∧ post s.2.2.2) : wpX_sessionField post (nI g, nI 0, nI 0, bD, nI bn, nI bm, bc, bk, bT, bv, b4, b5, b6, b7, q1, q2, q3, q4, q5) (nI j) z := by
  have hle : (ew_xl g f bn).length ≤ bn := by
    rw [ew_xl_l]
    exact ew_ct_le _ bn
  have hn := H.2.2.1
  have hj : j < (ew_xl g f bn).length := by
    have := (List.getElem?_eq_some_iff.mp hs).1
    rw [List.length_map] at this
    exact this
  refine xq_sess H Hs (fun x ks hx h1 h2 => ?_) (fun hno => absurd rfl (hno j hj))
  have e1 : j = x := (nI_eq (by omega) (by omega)).mp hx
  rw [List.getElem?_map, e1, h2] at hs
  have e2 : ew_ss g (ew_L f bn) ks = s := Option.some.inj hs
  rw [e2]
  unfold ew_sf
  rcases hz with ⟨rfl, hp⟩ | ⟨rfl, hp⟩ | ⟨rfl, hp⟩ | ⟨rfl, hp⟩
  · exact hp
  · exact hp
  · exact hp
  · exact hp
theorem fw_s_0 {α : Type} {h : α → Int64} : ∀ l : List α, (∀ x, x ∈ l → h x = 0) → fw_s h l = 0 := by
  intro l
  induction l with
  | nil => intro _; rfl
  | cons a l ih =>
    intro hz
    rw [fw_s_c, hz a List.mem_cons_self, ih (fun x hx => hz x (List.mem_cons_of_mem _ hx))]
    rfl
theorem fw_s_t {α : Type} {h : α → Int64} {l : List α} {q : Nat} {x : α} (hx : l[q]? = some x) : fw_s h (l.take (q + 1)) = fw_s h (l.take q) + h x := by
  rw [List.take_succ, hx, fw_s_a]
  exact congrArg _ fw_s_1
section
variable {L : Nat} {xs : Nat → Int32} {J : Int32 → Prop} {i len nb kc ks : Nat} {post : Int32 → Prop}
theorem fw_509 (H : ew_ev g bn f bk bT bv) (Hs : ew_srt f bn) (hy : ew_xb y) (hb : ∀ s, s ∈ (ew_xl g f bn).map (ew_ss g (ew_L f bn)) → ew_xb s) (hpw : ((ew_xl g f bn).map (ew_ss g (ew_L f bn))).Pairwise (fun a b => ew_pk a ≠ ew_pk b)) (hnb : nb = ((ew_xl g f bn).map (ew_ss g (ew_L f bn))).length) (hnb2 : nb ≤ 32) (K : J (nI (i + 1))) :
    ∀ d j, j + d = nb → wL_law_509 post L xs J (nI len) (nI nb) (nI i) (nI y.1) (nI y.2.1) (nI y.2.2.1) (fw_s (fw_fc y) ((ew_xl g f bn).map (ew_ss g (ew_L f bn)))) (fw_s (fw_fv y) ((ew_xl g f bn).map (ew_ss g (ew_L f bn)))) kc ks (nI g) l w D (nI n) (nI m) R.2.2.2.2.2 ak aT av pk ps pe pv R.1 R.2.1 R.2.2.1 R.2.2.2.1 R.2.2.2.2.1 (nI g) (nI 0) (nI 0) bD (nI bn) (nI bm) bc bk bT bv b4 b5 b6 b7 q1 q2 q3 q4 q5 (d + 1) (fw_s (fw_fc y) (((ew_xl g f bn).map (ew_ss g (ew_L f bn))).take j)) (fw_s (fw_fv y) (((ew_xl g f bn).map (ew_ss g (ew_L f bn))).take j)) (nI j) := by
  intro d
  induction d with
  | zero =>
    intro j hj
    rw [List.take_of_length_le (by omega)]
    exact br_t (nI_le (by omega) (by omega)) (br_t rfl (br_t rfl (nm_r (nI_1 i) K)))
  | succ d ih =>
    intro j hj
    have IH := ih (j + 1) (by omega)
    obtain ⟨s, hs⟩ : ∃ s, ((ew_xl g f bn).map (ew_ss g (ew_L f bn)))[j]? = some s := ⟨_, List.getElem?_eq_getElem (by omega)⟩
    have bs := hb s (List.mem_of_getElem? hs)
    obtain ⟨b1, b2, b3⟩ := bs
    obtain ⟨y1, y2, y3⟩ := id hy
    rw [fw_s_t hs, fw_s_t hs] at IH
    have no : ¬ fw_m y s → wL_law_509 post L xs J (nI len) (nI nb) (nI i) (nI y.1) (nI y.2.1) (nI y.2.2.1) (fw_s (fw_fc y) ((ew_xl g f bn).map (ew_ss g (ew_L f bn)))) (fw_s (fw_fv y) ((ew_xl g f bn).map (ew_ss g (ew_L f bn)))) kc ks (nI g) l w D (nI n) (nI m) R.2.2.2.2.2 ak aT av pk ps pe pv R.1 R.2.1 R.2.2.1 R.2.2.2.1 R.2.2.2.2.1 (nI g) (nI 0) (nI 0) bD (nI bn) (nI bm) bc bk bT bv b4 b5 b6 b7 q1 q2 q3 q4 q5 (d + 1) (fw_s (fw_fc y) (((ew_xl g f bn).map (ew_ss g (ew_L f bn))).take j)) (fw_s (fw_fv y) (((ew_xl g f bn).map (ew_ss g (ew_L f bn))).take j)) (nI (j + 1)) := by
      intro hm
      have e1 : fw_fc y s = 0 := if_neg (fun z => hm (ew_dcI.mp z))
      have e2 : fw_fv y s = 0 := if_neg (fun z => hm (ew_dcI.mp z))
      rw [e1, e2, Int64.add_zero, Int64.add_zero] at IH
      exact IH
    refine br_f (nI_ge (by omega) (by omega)) (xq_ses H Hs hs (Or.inl ⟨rfl, ek_if (nI_eq (by omega) (by omega)) (fun z1 => xq_ses H Hs hs (Or.inr (Or.inl ⟨rfl, ek_if (nI_eq (by omega) (by omega)) (fun z2 => xq_ses H Hs hs (Or.inr (Or.inr (Or.inl ⟨rfl, ek_if (nI_eq (by omega) (by omega)) (fun z3 => xq_ses H Hs hs (Or.inr (Or.inr (Or.inr ⟨rfl, nm_r (nI_1 j) ?_⟩)))) (fun z3 => nm_r (nI_1 j) (no (fun z => z3 z.2.2)))⟩)))) (fun z2 => nm_r (nI_1 j) (no (fun z => z2 z.2.1)))⟩))) (fun z1 => nm_r (nI_1 j) (no (fun z => z1 z.1)))⟩))
    have hm : fw_m y s := ⟨z1, z2, z3⟩
    have e1 : fw_fc y s = 1 := if_pos (ew_dcI.mpr hm)
    have e2 : fw_fv y s = s.2.2.2.toInt64 := if_pos (ew_dcI.mpr hm)
    have none : ∀ x, x ∈ ((ew_xl g f bn).map (ew_ss g (ew_L f bn))).take j → ¬ fw_m y x := by
      intro x hx hmx
      have hsp := hpw
      rw [← List.take_append_drop j ((ew_xl g f bn).map (ew_ss g (ew_L f bn)))] at hsp
      have hd : s ∈ ((ew_xl g f bn).map (ew_ss g (ew_L f bn))).drop j := by
        refine List.mem_of_getElem? (i := 0) ?_
        rw [List.getElem?_drop, Nat.add_zero]
        exact hs
      exact (List.pairwise_append.mp hsp).2.2 x hx s hd (Prod.ext (hmx.1.trans z1.symm) (hmx.2.1.trans z2.symm))
    have o1 : fw_s (fw_fc y) (((ew_xl g f bn).map (ew_ss g (ew_L f bn))).take j) = 0 := fw_s_0 _ (fun x hx => if_neg (fun z => none x hx (ew_dcI.mp z)))
    have o2 : fw_s (fw_fv y) (((ew_xl g f bn).map (ew_ss g (ew_L f bn))).take j) = 0 := fw_s_0 _ (fun x hx => if_neg (fun z => none x hx (ew_dcI.mp z)))
    rw [o1, o2, e1, e2, Int64.zero_add, Int64.zero_add] at IH
    exact IH
theorem fw_400 (H : ew_ev g bn f bk bT bv) (Hs : ew_srt f bn) (hy : ew_xb y) (hb : ∀ s, s ∈ (ew_xl g f bn).map (ew_ss g (ew_L f bn)) → ew_xb s) (hpw : ((ew_xl g f bn).map (ew_ss g (ew_L f bn))).Pairwise (fun a b => ew_pk a ≠ ew_pk b)) (hnb : nb = ((ew_xl g f bn).map (ew_ss g (ew_L f bn))).length) (hnb2 : nb ≤ 32) (K : J (nI (i + 1)))
    (hR : fw_R Lg R) (hlen : len = Lg.length) (hLb : ∀ x, x ∈ Lg → ew_xb x.2) (hsum : ∀ h : ew_P → Int64, fw_s (fw_g h) Lg = fw_s h ((ew_xl g f bn).map (ew_ss g (ew_L f bn)))) :
    ∀ d q, q + d = len → wL_law_400 post L xs J (nI len) (nI nb) (nI i) (nI y.1) (nI y.2.1) (nI y.2.2.1) kc ks (nI g) l w D (nI n) (nI m) R.2.2.2.2.2 ak aT av pk ps pe pv R.1 R.2.1 R.2.2.1 R.2.2.2.1 R.2.2.2.2.1 (nI g) (nI 0) (nI 0) bD (nI bn) (nI bm) bc bk bT bv b4 b5 b6 b7 q1 q2 q3 q4 q5 (d + 1) (fw_s (fw_g (fw_fc y)) (Lg.take q)) (fw_s (fw_g (fw_fv y)) (Lg.take q)) (nI q) := by
  have h64 := hR.1
  intro d
  induction d with
  | zero =>
    intro q hq
    rw [List.take_of_length_le (by omega), hsum, hsum]
    exact br_t (nI_le (by omega) (by omega)) ⟨nb + 1, fw_509 H Hs hy hb hpw hnb hnb2 K nb 0 (by omega)⟩
  | succ d ih =>
    intro q hq
    have IH := ih (q + 1) (by omega)
    obtain ⟨s, hs⟩ : ∃ s, Lg[q]? = some s := ⟨_, List.getElem?_eq_getElem (by omega)⟩
    have bs := hLb s (List.mem_of_getElem? hs)
    obtain ⟨b1, b2, b3⟩ := bs
    obtain ⟨y1, y2, y3⟩ := id hy
    rw [fw_s_t hs, fw_s_t hs] at IH
    have no : ¬ fw_m y s.2 → wL_law_400 post L xs J (nI len) (nI nb) (nI i) (nI y.1) (nI y.2.1) (nI y.2.2.1) kc ks (nI g) l w D (nI n) (nI m) R.2.2.2.2.2 ak aT av pk ps pe pv R.1 R.2.1 R.2.2.1 R.2.2.2.1 R.2.2.2.2.1 (nI g) (nI 0) (nI 0) bD (nI bn) (nI bm) bc bk bT bv b4 b5 b6 b7 q1 q2 q3 q4 q5 (d + 1) (fw_s (fw_g (fw_fc y)) (Lg.take q)) (fw_s (fw_g (fw_fv y)) (Lg.take q)) (nI (q + 1)) := by
      intro hm
      have e1 : fw_fc y s.2 = 0 := if_neg (fun z => hm (ew_dcI.mp z))
      have e2 : fw_fv y s.2 = 0 := if_neg (fun z => hm (ew_dcI.mp z))
      have e3 : fw_g (fw_fc y) s = 0 := by
        unfold fw_g
        rw [e1]
        split <;> rfl
      have e4 : fw_g (fw_fv y) s = 0 := by
        unfold fw_g
        rw [e2]
        split <;> rfl
      rw [e3, e4, Int64.add_zero, Int64.add_zero] at IH
      exact IH
    refine br_f (nI_ge (by omega) (by omega)) (xq_rec hR hs (Or.inr (Or.inl ⟨rfl, ek_if (nI_eq (by omega) (by omega)) (fun z1 => xq_rec hR hs (Or.inr (Or.inr (Or.inl ⟨rfl, ek_if (nI_eq (by omega) (by omega)) (fun z2 => xq_rec hR hs (Or.inr (Or.inr (Or.inr (Or.inl ⟨rfl, ek_if (nI_eq (by omega) (by omega)) (fun z3 => xq_rec hR hs (Or.inr (Or.inr (Or.inr (Or.inr ⟨rfl, xq_rec hR hs (Or.inl ⟨rfl, ?_⟩)⟩))))) (fun z3 => nm_r (nI_1 q) (no (fun z => z3 z.2.2)))⟩))))) (fun z2 => nm_r (nI_1 q) (no (fun z => z2 z.2.1)))⟩)))) (fun z1 => nm_r (nI_1 q) (no (fun z => z1 z.1)))⟩)))
    have hm : fw_m y s.2 := ⟨z1, z2, z3⟩
    have e1 : fw_fc y s.2 = 1 := if_pos (ew_dcI.mpr hm)
    have e2 : fw_fv y s.2 = s.2.2.2.2.toInt64 := if_pos (ew_dcI.mpr hm)
    unfold fw_g at IH
    rw [e1, e2] at IH
    refine br_c (fun z4 => nm_r (Int64.sub_eq_add_neg _ _) (nm_r (Int64.sub_eq_add_neg _ _) (nm_r (nI_1 q) ?_))) (fun z4 => nm_e (nm_e (nm_r (nI_1 q) ?_)))
    · rw [if_pos z4, if_pos z4] at IH
      exact IH
    · rw [if_neg z4, if_neg z4] at IH
      exact IH
theorem fw_285 (H : ew_ev g bn f bk bT bv) (Hs : ew_srt f bn) (hb : ∀ s, s ∈ (ew_xl g f bn).map (ew_ss g (ew_L f bn)) → ew_xb s) (hpw : ((ew_xl g f bn).map (ew_ss g (ew_L f bn))).Pairwise (fun a b => ew_pk a ≠ ew_pk b)) (hnb : nb = ((ew_xl g f bn).map (ew_ss g (ew_L f bn))).length) (hnb2 : nb ≤ 32)
    (hR : fw_R Lg R) (hlen : len = Lg.length) (hLb : ∀ x, x ∈ Lg → (x.1 = 1 ∨ x.1 = 2 ∨ x.1 = 3 ∨ x.1 = 4) ∧ ew_xb x.2) (hsum : ∀ h : ew_P → Int64, fw_s (fw_g h) Lg = fw_s h ((ew_xl g f bn).map (ew_ss g (ew_L f bn)))) (hpost : post 1) :
    ∀ d i, i + d = len + nb → wL_law_285 post L xs (nI len) (nI nb) kc ks (nI g) l w D (nI n) (nI m) R.2.2.2.2.2 ak aT av pk ps pe pv R.1 R.2.1 R.2.2.1 R.2.2.2.1 R.2.2.2.2.1 (nI g) (nI 0) (nI 0) bD (nI bn) (nI bm) bc bk bT bv b4 b5 b6 b7 q1 q2 q3 q4 q5 (d + 1) (nI i) := by
  have h64 := hR.1
  have hLb' : ∀ x, x ∈ Lg → ew_xb x.2 := fun x hx => (hLb x hx).2
  intro d
  induction d with
  | zero =>
    intro i hi
    refine br_t ?_ hpost
    rw [nI_add]
    exact nI_le (by omega) (by omega)
  | succ d ih =>
    intro i hi
    have IH := ih (i + 1) (by omega)
    refine br_f ?_ (ek_if (nI_leI (by omega) (by omega)) (fun z => ?_) (fun z => ?_))
    · rw [nI_add]
      exact nI_ge (by omega) (by omega)
    · rw [pk_sub z]
      obtain ⟨s, hs⟩ : ∃ s, ((ew_xl g f bn).map (ew_ss g (ew_L f bn)))[i - len]? = some s := ⟨_, List.getElem?_eq_getElem (by omega)⟩
      exact xq_ses H Hs hs (Or.inl ⟨rfl, xq_ses H Hs hs (Or.inr (Or.inl ⟨rfl, xq_ses H Hs hs (Or.inr (Or.inr (Or.inl ⟨rfl, len + 1, fw_400 H Hs (hb s (List.mem_of_getElem? hs)) hb hpw hnb hnb2 IH hR hlen hLb' hsum len 0 (by omega)⟩)))⟩))⟩)
    · obtain ⟨s, hs⟩ : ∃ s, Lg[i]? = some s := ⟨_, List.getElem?_eq_getElem (by omega)⟩
      have hk := (hLb s (List.mem_of_getElem? hs)).1
      have k1 : ¬ s.1 < 1 := by rcases hk with e | e | e | e <;> rw [e] <;> decide
      have k2 : s.1 ≤ 4 := by rcases hk with e | e | e | e <;> rw [e] <;> decide
      exact xq_rec hR hs (Or.inl ⟨rfl, br_f k1 (br_t k2 (xq_rec hR hs (Or.inr (Or.inl ⟨rfl, xq_rec hR hs (Or.inr (Or.inr (Or.inl ⟨rfl, xq_rec hR hs (Or.inr (Or.inr (Or.inr (Or.inl ⟨rfl, len + 1, fw_400 H Hs (hLb' s (List.mem_of_getElem? hs)) hb hpw hnb hnb2 IH hR hlen hLb' hsum len 0 (by omega)⟩))))⟩)))⟩))))⟩)
end
end
