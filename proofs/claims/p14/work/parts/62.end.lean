/-! the law's end -/
section
variable {g lt W n m bn bm ad len kc ks L : Nat} {D bD bc : Int32} {ak aT av pk ps pe pv bk bT bv b4 b5 b6 b7 q1 q2 q3 q4 q5 : Nat → Int32} {e f : Nat → ew_E} {p pb : Nat → ew_P} {X : List ew_E} {Rt : List ew_P} {R : ew_R} {xs : Nat → Int32} {l w c : Int32} {r1 r2 r3 r4 r5 : Nat → Int32}
theorem xa_wm {post : Int32 → Prop} (h : post w) : wpX_watermark post (nI g, l, w, D, nI n, nI m, c, ak, aT, av, pk, ps, pe, pv, r1, r2, r3, r4, r5) := h
theorem xa_rc {post : Int32 → Prop} (h : post c) : wpX_recordCount post (nI g, l, w, D, nI n, nI m, c, ak, aT, av, pk, ps, pe, pv, r1, r2, r3, r4, r5) := h
theorem xa_se {post : Int32 → Prop} (h : post (nI n)) : wpX_storedEvents post (nI g, l, w, D, nI n, nI m, c, ak, aT, av, pk, ps, pe, pv, r1, r2, r3, r4, r5) := h
theorem xa_pc {post : Int32 → Prop} (h : post (nI m)) : wpX_paneCount post (nI g, l, w, D, nI n, nI m, c, ak, aT, av, pk, ps, pe, pv, r1, r2, r3, r4, r5) := h
theorem xa_gp {post : Int32 → Prop} (h : post (nI g)) : wpX_gap post (nI g, l, w, D, nI n, nI m, c, ak, aT, av, pk, ps, pe, pv, r1, r2, r3, r4, r5) := h
def fw_I (g lt W n m bn bm ad len : Nat) (e f : Nat → ew_E) (p pb : Nat → ew_P) (X : List ew_E) (Rt : List ew_P) (R : ew_R) (ak aT av pk ps pe pv bk bT bv b4 b5 b6 b7 : Nat → Int32) : Prop :=
  ew_ok g lt W n e ∧ ew_srt e n ∧ ew_aE n e ak aT av ∧ ew_pa m p pk ps pe pv ∧ fw_X g lt W (ew_L e n) X (ew_L p m) Rt ∧ fw_J (ew_L p m) Rt R len ∧ ew_ok g 0 0 bn f ∧ ew_srt f bn ∧ ew_aE bn f bk bT bv ∧ ew_pa bm pb b4 b5 b6 b7 ∧ ew_G g (ew_L f bn) (ew_L pb bm) ∧ bn = ad ∧ ad ≤ 10 ∧ (ew_L f bn).Perm (ew_L e n ++ X)
theorem fw_bd_ok (h : ew_ok g lt W n e) (hn : n < 32) : fw_bd g (ew_L e n) := ⟨h.1, h.2.1, by rw [ew_Ll]; exact hn, fun k t m => ew_okM h m⟩
theorem fw_n10 (hp : (ew_L f bn).Perm (ew_L e n ++ X)) : bn = n + X.length := by
  have := hp.length_eq
  rw [List.length_append, ew_Ll, ew_Ll] at this
  exact this
/-- one call's records: no more than panes and sessions -/
theorem fw_Jx {kd : Int32} {t : Nat → Bool} (hok : ew_ok g lt W n e) (Hs : ew_srt e n) (hn : n ≤ 10) (hk : kd = 1 ∨ kd = 2 ∨ kd = 3) (hK : fw_K g (ew_L e n) (ew_L p m)) (hJ : fw_J (ew_L p m) Rt R len) (hl : len ≤ 44) : ∃ len', len' ≤ len + 20 ∧ fw_J ((ew_xl g e n).foldl (ew_fs kd t g (ew_L e n)) (ew_L p m, R)).1 Rt ((ew_xl g e n).foldl (ew_fs kd t g (ew_L e n)) (ew_L p m, R)).2 len' := by
  have hle : (ew_xl g e n).length ≤ n := by
    rw [ew_xl_l]
    exact ew_ct_le _ n
  have h1 := fw_len hK
  have h0 := ew_Ll e n
  have h2 := List.length_filter_le (fw_bp g (ew_L e n) (ew_xl g e n)) (ew_L p m)
  obtain ⟨len', a, b⟩ := fw_ff_J (fw_bd_ok hok (by omega)) hk (t := t) (ew_xl g e n) (ew_L p m, R) len (fun x hx => ew_xl_O Hs (Nat.le_refl _) hx) (ew_xl_n' Hs hok.1) hK hJ (by show len + (ew_xl g e n).length + ((ew_L p m).filter (fw_bp g (ew_L e n) (ew_xl g e n))).length ≤ 64; omega)
  have a' : len' ≤ len + (ew_xl g e n).length + ((ew_L p m).filter (fw_bp g (ew_L e n) (ew_xl g e n))).length := a
  exact ⟨len', by omega, b⟩
theorem fw_end (hI : fw_I g lt W n m bn bm ad len e f p pb X Rt R ak aT av pk ps pe pv bk bT bv b4 b5 b6 b7) (hl : len ≤ 44) (hW : W ≤ 4800) : wL_law_231 (fun r => r = 1) L xs kc ks (nI g) (nI lt) (nI W) D (nI n) (nI m) R.2.2.2.2.2 ak aT av pk ps pe pv R.1 R.2.1 R.2.2.1 R.2.2.2.1 R.2.2.2.2.1 (nI g) (nI 0) (nI 0) bD (nI bn) (nI bm) bc bk bT bv b4 b5 b6 b7 q1 q2 q3 q4 q5 := by
  obtain ⟨hok, Hs, hE, HP, hX, hJ, hokb, Hsb, hEb, HPb, HGb, had, had2, hperm⟩ := hI
  have hbn := fw_n10 hperm
  have hn : n ≤ 10 := by omega
  have hb := fw_bd_ok hok (by omega)
  obtain ⟨o1, o2, o3, o4, o5, o6⟩ := id hok
  refine xa_adv hok Hs hE HP hX.1.1 (W' := 2100000) (by omega) (Nat.le_refl _) (fun nc mc c p' R' ak aT av pk ps pe pv h1 h2 h3 h4 => ?_)
  obtain ⟨len1, l1, J1⟩ := fw_Jx (kd := 2) (t := fun z => ew_dc (z ≤ 2100000)) hok Hs hn (Or.inr (Or.inl rfl)) hX.1 hJ hl
  have X1 := fw_X_fire (kd := 2) (R := R) (W' := 2100000) hb (fun x => ew_xl_m Hs o1) (by omega) hX
  have X2 := fw_exp hb X1
  have J2 := fw_J_exp (ew_pp g (ew_L e n) lt 2100000) J1
  have kp0 : (ew_L e n).filter (ew_kp g (ew_L e n) lt 2100000) = [] := by
    refine ew_filt_none (fun y hy => ?_)
    obtain ⟨i, hi, rfl⟩ := ew_Lm.mp hy
    rw [ew_kp_k]
    refine ew_dcF.mpr (fun z => z ?_)
    have := ew_okS hok (ew_ks_O (g := g) (e := e) hi)
    omega
  have fnE := fw_fn (ew_kp g (ew_L e n) lt 2100000) (ew_L e n)
  rw [kp0, List.nil_append] at fnE
  rw [kp0] at X2 h2
  have e1 := congrArg Prod.fst h4
  have e2 := congrArg Prod.snd h4
  dsimp only at e1 e2
  rw [← e1] at X2 J2
  rw [← e2] at J2
  have hP0 : ew_L p' mc = [] := by
    refine List.eq_nil_iff_forall_not_mem.mpr (fun y hy => ?_)
    obtain ⟨v, m⟩ := (X2.1.2 y hy).1
    exact absurd m List.not_mem_nil
  have hnc : nc = 0 := by
    have := congrArg List.length h2
    rw [ew_Ll] at this
    exact this
  have hmc : mc = 0 := by
    have := congrArg List.length hP0
    rw [ew_Ll] at this
    exact this
  rw [hP0] at J2
  subst hnc hmc
  obtain ⟨Lg, g1, g2, g3, g4⟩ := J2
  have pb1 : (X ++ (ew_L e n).filter (fun x => ! ew_kp g (ew_L e n) lt 2100000 x)).Perm (ew_L f bn) := by
    refine List.perm_append_comm.trans ?_
    exact (fnE.symm.append_right X).trans hperm.symm
  have SL := fw_SL_p pb1 X2.2.2.2.2
  have hpw : ((ew_xl g f bn).map (ew_ss g (ew_L f bn))).Pairwise (fun a b => ew_pk a ≠ ew_pk b) := by
    refine List.pairwise_map.mpr (List.Pairwise.imp ?_ (ew_xl_n' Hsb o1))
    intro a b hab z
    exact hab z
  have hnd : ((ew_xl g f bn).map (ew_ss g (ew_L f bn))).Nodup := List.Pairwise.imp (fun hab z => hab (by rw [z])) hpw
  have hperm2 := (List.perm_ext_iff_of_nodup (List.Pairwise.imp (fun hab z => hab (by rw [z])) SL.2.2) hnd).mpr (fun r => by
    rw [List.mem_map]
    constructor
    · intro hr
      obtain ⟨a1, a2⟩ := SL.2.1 r hr
      exact ⟨(r.1, r.2.1), (ew_xl_m Hsb o1).mpr a1, a2.symm⟩
    · rintro ⟨ks, hks, rfl⟩
      exact SL.1 ks.1 ks.2 ((ew_xl_m Hsb o1).mp hks))
  have hsum : ∀ h : ew_P → Int64, fw_s (fw_g h) Lg = fw_s h ((ew_xl g f bn).map (ew_ss g (ew_L f bn))) := by
    intro h
    rw [g4 h, fw_s_p hperm2]
    exact Int64.zero_add _
  have Hb : ew_ev g bn f bk bT bv := ⟨hokb.1, hokb.2.1, hokb.2.2.2.2.1, hEb, hokb.2.2.2.2.2⟩
  have Hc : ew_ev g 0 c ak aT av := ⟨o1, o2, by omega, h1, fun i hi => absurd hi (Nat.not_lt_zero i)⟩
  have hle : (ew_xl g f bn).length ≤ bn := by
    rw [ew_xl_l]
    exact ew_ct_le _ bn
  have hbs : ∀ s, s ∈ (ew_xl g f bn).map (ew_ss g (ew_L f bn)) → ew_xb s := by
    intro s hs
    obtain ⟨ks, hks, rfl⟩ := List.mem_map.mp hs
    have := ew_okS hokb ((ew_xl_m Hsb o1).mp hks)
    exact ⟨this.1, by omega, this.2.2⟩
  refine xa_se (br_t nI_0 (xa_sc Hc (br_t nI_0 (xa_pc (br_t nI_0 (xa_rc (br_t ?_ (xa_sc Hb ⟨len1 + (ew_xl g f bn).length + 1, ?_⟩))))))))
  · rw [g1.2.1]
    exact nI_le (b := 64) (by omega) (by omega)
  · have hc : R'.2.2.2.2.2 = nI len1 := by
      rw [g1.2.1, g2]
    have F := fw_285 (L := L) (xs := xs) (kc := kc) (ks := ks) (l := nI lt) (w := nI 2100000) (D := D) (n := 0) (m := 0) (ak := ak) (aT := aT) (av := av) (pk := pk) (ps := ps) (pe := pe) (pv := pv) (bm := bm) (bD := bD) (bc := bc) (b4 := b4) (b5 := b5) (b6 := b6) (b7 := b7) (q1 := q1) (q2 := q2) (q3 := q3) (q4 := q4) (q5 := q5) (post := fun r => r = 1) (nb := (ew_xl g f bn).length) Hb Hsb hbs hpw (by rw [List.length_map]) (by omega) g1 g2.symm g3 hsum rfl (len1 + (ew_xl g f bn).length) 0 (by omega)
    exact ek_v (P := fun z => wL_law_285 (fun r => r = 1) L xs z (nI (ew_xl g f bn).length) kc ks (nI g) (nI lt) (nI 2100000) D (nI 0) (nI 0) R'.2.2.2.2.2 ak aT av pk ps pe pv R'.1 R'.2.1 R'.2.2.1 R'.2.2.2.1 R'.2.2.2.2.1 (nI g) (nI 0) (nI 0) bD (nI bn) (nI bm) bc bk bT bv b4 b5 b6 b7 q1 q2 q3 q4 q5 (len1 + (ew_xl g f bn).length + 1) 0) hc F
end
