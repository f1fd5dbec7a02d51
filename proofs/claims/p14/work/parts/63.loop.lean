/-! the law's first loop, and what is owed -/
section
variable {g lt W n m bn bm ad len kc ks L : Nat} {D bD bc : Int32} {ak aT av pk ps pe pv bk bT bv b4 b5 b6 b7 q1 q2 q3 q4 q5 : Nat → Int32} {e f : Nat → ew_E} {p pb : Nat → ew_P} {X : List ew_E} {Rt : List ew_P} {R : ew_R} {xs : Nat → Int32}
theorem fw_cell {post : Int32 → Prop} {z : Int32} {k : Nat} (hL : L ≤ 260) (hz : z = nI k) (hk : k < 2 ^ 31) (h : ∀ c, post c) : wpL_cell post L xs () z := by
  subst hz
  by_cases c : L ≤ k
  · exact br_t (nI_le c hk) (h 0)
  · exact br_f (nI_ge (by omega) (by omega)) ⟨vp_in_nI (by omega) (by omega), h _⟩
theorem fw_val : ∀ j, j < 16 → ¬ nI j - 8 < -1000 ∧ nI j - 8 ≤ 1000 := by decide +kernel
def fw_J44 (L : Nat) (xs : Nat → Int32) (kc ks : Nat) (g lt : Nat) (fu pp : Nat) : Prop := ∀ (W n m bn bm ad len : Nat) (D bD : Int32) (e f : Nat → ew_E) (p pb : Nat → ew_P) (X : List ew_E) (Rt : List ew_P) (R Rb : ew_R) (ak aT av pk ps pe pv bk bT bv b4 b5 b6 b7 : Nat → Int32), fw_I g lt W n m bn bm ad len e f p pb X Rt R ak aT av pk ps pe pv bk bT bv b4 b5 b6 b7 → len ≤ 44 → W ≤ 32 * pp → wL_law_44 (fun r => r = 1) L xs kc ks fu (nI ad) (nI pp) (nI g) (nI lt) (nI W) D (nI n) (nI m) R.2.2.2.2.2 ak aT av pk ps pe pv R.1 R.2.1 R.2.2.1 R.2.2.2.1 R.2.2.2.2.1 (nI g) (nI 0) (nI 0) bD (nI bn) (nI bm) Rb.2.2.2.2.2 bk bT bv b4 b5 b6 b7 Rb.1 Rb.2.1 Rb.2.2.1 Rb.2.2.2.1 Rb.2.2.2.2.1
theorem fw_151 {pp fu k t : Nat} {cc : Int32} {Rb : ew_R} (hI : fw_I g lt W n m bn bm ad len e f p pb X Rt R ak aT av pk ps pe pv bk bT bv b4 b5 b6 b7) (hl : len ≤ 24) (hW : W ≤ 32 * pp) (had : ad < 10) (hk : k ≤ 7) (ht : t ≤ 1000000) (K : fw_J44 L xs kc ks g lt fu (pp + 1)) :
    wL_law_151 (fun r => r = 1) L xs (wL_law_44 (fun r => r = 1) L xs kc ks fu) (nI ad) (nI pp) cc (nI k) (nI t) kc ks (nI g) (nI lt) (nI W) D (nI n) (nI m) R.2.2.2.2.2 ak aT av pk ps pe pv R.1 R.2.1 R.2.2.1 R.2.2.2.1 R.2.2.2.2.1 (nI g) (nI 0) (nI 0) bD (nI bn) (nI bm) Rb.2.2.2.2.2 bk bT bv b4 b5 b6 b7 Rb.1 Rb.2.1 Rb.2.2.1 Rb.2.2.2.1 Rb.2.2.2.2.1 := by
  obtain ⟨hok, Hs, hE, HP, hX, hJ, hokb, Hsb, hEb, HPb, HGb, hbad, had2, hperm⟩ := id hI
  have hbn := fw_n10 hperm
  have hn : n ≤ 10 := by omega
  obtain ⟨o1, o2, o3, o4, o5, o6⟩ := id hok
  obtain ⟨j, hj, ej⟩ := pk_andE (cc >>> ((7 : Int32) &&& 31)) (m := 15) 4 (by decide)
  obtain ⟨v1, v2⟩ := fw_val j hj
  refine nm_r (e' := nI j - 8) (by rw [ej]) ?_
  by_cases c : W ≤ t + lt
  · refine xa_add hok Hs hE HP hX.1.1 hk ht v1 v2 c (by omega) (fun b ak aT av m' p' R' pk ps pe pv h1 h2 h3 h4 h5 => ?_)
    have hE' := ew_put_p e (k, t, nI j - 8) b n h1
    have hok' : ew_ok g lt W (n + 1) (ew_put e (k, t, nI j - 8) b) := by
      refine ⟨o1, o2, o3, o4, by omega, fun i hi => ?_⟩
      by_cases a : i < b
      · rw [ew_put_a a]
        exact o6 i (by omega)
      · by_cases d : i = b
        · rw [d, ew_put_b]
          exact ⟨hk, ht⟩
        · rw [ew_put_c (show b < i by omega)]
          exact o6 (i - 1) (by omega)
    have hb' := fw_bd_ok hok' (by omega)
    have hks : ew_ks g (ew_put e (k, t, nI j - 8) b) (n + 1) b = (k, ew_st g (ew_M (ew_L (ew_put e (k, t, nI j - 8) b) (n + 1))) k t) := by
      unfold ew_ks
      rw [ew_put_b]
    have ho := ew_ks_O (g := g) (e := ew_put e (k, t, nI j - 8) b) (show b < n + 1 by omega)
    have X1 := fw_add (kd := 3) (R := R) (x := (k, t, nI j - 8)) hb' hE' c hX
    have K1 : fw_K g (ew_L (ew_put e (k, t, nI j - 8) b) (n + 1)) (ew_L p m) := fw_K_add (fun y hy => hE'.mem_iff.mpr (List.mem_cons_of_mem _ hy)) hX.1
    dsimp only at X1
    rw [← hks, ← h5] at X1
    have J1 : ∃ len', len ≤ len' ∧ len' ≤ 44 ∧ fw_J (ew_L p' m') Rt R' len' := by
      have hpl := fw_len hX.1
      have hpl0 := ew_Ll e n
      have e1 := congrArg Prod.fst h5
      have e2 := congrArg Prod.snd h5
      dsimp only at e1 e2
      rw [e1, e2]
      by_cases d : (fun z => ew_dc (z ≤ W)) (ew_ss g (ew_L (ew_put e (k, t, nI j - 8) b) (n + 1)) (ew_ks g (ew_put e (k, t, nI j - 8) b) (n + 1) b)).2.2.1 = true
      · rw [ew_fs_y d]
        have B1 : (ew_B (ew_ss g (ew_L (ew_put e (k, t, nI j - 8) b) (n + 1)) (ew_ks g (ew_put e (k, t, nI j - 8) b) (n + 1) b)) (ew_L p m)).length ≤ (ew_L p m).length := List.length_filter_le _ _
        have N1 : (ew_N (ew_ss g (ew_L (ew_put e (k, t, nI j - 8) b) (n + 1)) (ew_ks g (ew_put e (k, t, nI j - 8) b) (n + 1) b)) (ew_L p m)).length ≤ (ew_L p m).length := List.length_filter_le _ _
        obtain ⟨len', a1, a2, a3⟩ := fw_J_fi (kd := 3) hJ (Or.inr (Or.inr rfl)) (fw_xb hb' (fw_PJ_n ho)) (fun y hy => fw_xb hb' (K1.2 y hy)) (show len + (ew_B (ew_ss g (ew_L (ew_put e (k, t, nI j - 8) b) (n + 1)) (ew_ks g (ew_put e (k, t, nI j - 8) b) (n + 1) b)) (ew_L p m)).length + 1 ≤ 64 by omega) (show (ew_N (ew_ss g (ew_L (ew_put e (k, t, nI j - 8) b) (n + 1)) (ew_ks g (ew_put e (k, t, nI j - 8) b) (n + 1) b)) (ew_L p m)).length < 32 by omega)
        have a2' : len' ≤ len + (ew_B (ew_ss g (ew_L (ew_put e (k, t, nI j - 8) b) (n + 1)) (ew_ks g (ew_put e (k, t, nI j - 8) b) (n + 1) b)) (ew_L p m)).length + 1 := a2
        exact ⟨len', a1, by omega, a3⟩
      · rw [ew_fs_n d]
        exact ⟨len, Nat.le_refl _, by omega, hJ⟩
    obtain ⟨len', l1, l2, J2⟩ := J1
    have c1 : R.2.2.2.2.2 = nI len := by
      obtain ⟨Lg, z1, z2, _⟩ := hJ
      rw [z1.2.1, z2]
    have c2 : R'.2.2.2.2.2 = nI len' := by
      obtain ⟨Lg, z1, z2, _⟩ := J2
      rw [z1.2.1, z2]
    refine br_f ?_ (nm_r (nI_1 ad) ?_)
    · rw [c1, c2, pk_sub l1]
      exact nI_pos (by omega)
    · refine xa_add (lt := 0) (W := 0) hokb Hsb hEb HPb HGb hk ht v1 v2 (by omega) (by omega) (fun b' bk bT bv bm' pb' Rb' b4 b5 b6 b7 g1 g2 g3 g4 g5 => nm_r (nI_1 pp) ?_)
      have hEb' := ew_put_p f (k, t, nI j - 8) b' bn g1
      have hokb' : ew_ok g 0 0 (bn + 1) (ew_put f (k, t, nI j - 8) b') := by
        refine ⟨o1, o2, by omega, by omega, by omega, fun i hi => ?_⟩
        by_cases a : i < b'
        · rw [ew_put_a a]
          exact hokb.2.2.2.2.2 i (by omega)
        · by_cases d : i = b'
          · rw [d, ew_put_b]
            exact ⟨hk, ht⟩
          · rw [ew_put_c (show b' < i by omega)]
            exact hokb.2.2.2.2.2 (i - 1) (by omega)
      have HGb' : ew_G g (ew_L (ew_put f (k, t, nI j - 8) b') (bn + 1)) (ew_L pb' bm') := by
        have := ew_fs_G (kd := 3) (t := fun z => ew_dc (z ≤ 0)) (st := (ew_L pb bm, Rb)) o1 (ew_ks_O (g := g) (e := ew_put f (k, t, nI j - 8) b') (show b' < bn + 1 by omega)) (ew_add_G (fun y hy => hEb'.mem_iff.mpr (List.mem_cons_of_mem _ hy)) HGb)
        rw [← g5] at this
        exact this
      have hperm' : (ew_L (ew_put f (k, t, nI j - 8) b') (bn + 1)).Perm (ew_L (ew_put e (k, t, nI j - 8) b) (n + 1) ++ X) := hEb'.trans ((hperm.cons _).trans (hE'.symm.append_right X))
      exact K W (n + 1) m' (bn + 1) bm' (ad + 1) len' D bD (ew_put e (k, t, nI j - 8) b) (ew_put f (k, t, nI j - 8) b') p' pb' X Rt R' Rb' ak aT av pk ps pe pv bk bT bv b4 b5 b6 b7 ⟨hok', h2, h3, h4, X1, J2, hokb', g2, g3, g4, HGb', by omega, by omega, hperm'⟩ l2 (by omega)
  · have d1 : ¬ nI W ≤ nI t + nI lt := by
      rw [nI_add]
      exact nI_ge (by omega) (by omega)
    exact br_f (nI_pos (by omega)) (br_t (nI_le (b := 7) hk (by omega)) (br_f (nI_pos (by omega)) (br_t (nI_le (b := 1000000) ht (by omega)) (br_f v1 (br_t v2 (br_f d1 (nm_e (br_t (by decide) (nm_r (nI_1 pp) (K W n m bn bm ad len (D + 1) bD e f p pb X Rt R Rb ak aT av pk ps pe pv bk bT bv b4 b5 b6 b7 hI (by omega) (by omega)))))))))))
theorem fw_44 (hL : L ≤ 260) : ∀ d pp, pp + d = 150 → fw_J44 L xs kc ks g lt (d + 1) pp := by
  intro d
  induction d with
  | zero =>
    intro pp hpp W n m bn bm ad len D bD e f p pb X Rt R Rb ak aT av pk ps pe pv bk bT bv b4 b5 b6 b7 hI hl hW
    exact br_t (nI_le (a := 150) (by omega) (by omega)) (fw_end hI hl (by omega))
  | succ d ih =>
    intro pp hpp W n m bn bm ad len D bD e f p pb X Rt R Rb ak aT av pk ps pe pv bk bT bv b4 b5 b6 b7 hI hl hW
    have E := fw_end (L := L) (xs := xs) (kc := kc) (ks := ks) (D := D) (bD := bD) (bc := Rb.2.2.2.2.2) (q1 := Rb.1) (q2 := Rb.2.1) (q3 := Rb.2.2.1) (q4 := Rb.2.2.2.1) (q5 := Rb.2.2.2.2.1) hI hl (by omega)
    have K := ih (pp + 1) (by omega)
    obtain ⟨hok, Hs, hE, HP, hX, hJ, hokb, Hsb, hEb, HPb, HGb, hbad, had2, hperm⟩ := id hI
    have hbn := fw_n10 hperm
    have hn : n ≤ 10 := by omega
    have hb := fw_bd_ok hok (by omega)
    obtain ⟨o1, o2, o3, o4, o5, o6⟩ := id hok
    have c1 : R.2.2.2.2.2 = nI len := by
      obtain ⟨Lg, z1, z2, _⟩ := hJ
      rw [z1.2.1, z2]
    have c24 : R.2.2.2.2.2 ≤ 24 ↔ len ≤ 24 := by
      rw [c1]
      exact nI_leI (b := 24) (by omega) (by omega)
    have e2 : (2 : Int32) + 2 * nI pp = nI (2 + 2 * pp) := by
      rw [show (2 : Int32) = nI 2 from rfl, pk_mul, nI_add]
    have e3 : (3 : Int32) + 2 * nI pp = nI (3 + 2 * pp) := by
      rw [show (2 : Int32) = nI 2 from rfl, show (3 : Int32) = nI 3 from rfl, pk_mul, nI_add]
    refine br_f (nI_ge (b := 150) (by omega) (by omega)) (br_c (fun _ => E) (fun _ => xa_rc (ek_if c24 (fun l24 => fw_cell hL e2 (by omega) (fun a => fw_cell hL e3 (by omega) (fun cc => ?_))) (fun _ => E))))
    obtain ⟨op, hop, eop⟩ := pk_andE a (m := 3) 2 (by decide)
    refine nm_r eop (ek_if (nI_ltI (a := 1) (by omega) (by omega)) (fun z1 => ek_if (nI_eq (b := 2) (by omega) (by omega)) (fun z2 => xa_wm ?_) (fun z2 => ?_)) (fun z1 => ek_if (nI_ltI (b := 10) (by omega) (by omega)) (fun z2 => ?_) (fun z2 => nm_r (nI_1 pp) (K W n m bn bm ad len D bD e f p pb X Rt R Rb ak aT av pk ps pe pv bk bT bv b4 b5 b6 b7 hI hl (by omega)))))
    · obtain ⟨j, hj, ej⟩ := pk_andE cc (m := 31) 5 (by decide)
      have e4 : nI W + 1 + (cc &&& 31) = nI (W + 1 + j) := by
        rw [ej, nI_1, nI_add]
      rw [e4]
      refine xa_adv hok Hs hE HP hX.1.1 (W' := W + 1 + j) (by omega) (by omega) (fun nc mc c p' R' ak aT av pk ps pe pv h1 h2 h3 h4 => nm_r (nI_1 pp) ?_)
      obtain ⟨len1, l1, J1⟩ := fw_Jx (kd := 2) (t := fun z => ew_dc (z ≤ W + 1 + j)) hok Hs hn (Or.inr (Or.inl rfl)) hX.1 hJ hl
      have X1 := fw_X_fire (kd := 2) (R := R) (W' := W + 1 + j) hb (fun x => ew_xl_m Hs o1) (by omega) hX
      have X2 := fw_exp hb X1
      have J2 := fw_J_exp (ew_pp g (ew_L e n) lt (W + 1 + j)) J1
      have e5 := congrArg Prod.fst h4
      have e6 := congrArg Prod.snd h4
      dsimp only at e5 e6
      rw [← e5, ← h2] at X2
      rw [← e5, ← e6] at J2
      have hnc : nc ≤ n := by
        have := List.length_filter_le (ew_kp g (ew_L e n) lt (W + 1 + j)) (ew_L e n)
        rw [← h2, ew_Ll, ew_Ll] at this
        exact this
      have hok' : ew_ok g lt (W + 1 + j) nc c := by
        refine ⟨o1, o2, o3, by omega, by omega, fun i hi => ?_⟩
        have hm : c i ∈ (ew_L e n).filter (ew_kp g (ew_L e n) lt (W + 1 + j)) := by
          rw [← h2]
          exact ew_Lm.mpr ⟨i, hi, rfl⟩
        obtain ⟨t, ht, z⟩ := ew_Lm.mp (List.mem_filter.mp hm).1
        rw [← z]
        exact o6 t ht
      have Hs' : ew_srt c nc := by
        rw [ew_srtL, h2]
        exact List.Pairwise.filter _ (ew_srtL.mp Hs)
      have hperm' : (ew_L f bn).Perm (ew_L c nc ++ (X ++ (ew_L e n).filter (fun x => ! ew_kp g (ew_L e n) lt (W + 1 + j) x))) := by
        rw [h2]
        refine hperm.trans (((fw_fn (ew_kp g (ew_L e n) lt (W + 1 + j)) (ew_L e n)).append_right X).trans ?_)
        rw [List.append_assoc]
        exact List.perm_append_comm.append_left _
      exact K (W + 1 + j) nc mc bn bm ad len1 D bD c f p' pb _ _ R' Rb ak aT av pk ps pe pv bk bT bv b4 b5 b6 b7 ⟨hok', Hs', h1, h3, X2, J2, hokb, Hsb, hEb, HPb, HGb, hbad, had2, hperm'⟩ (by omega) (by omega)
    · refine xa_ear hok Hs hE HP hX.1.1 (fun m' p' R' pk ps pe pv h1 h2 => nm_r (nI_1 pp) ?_)
      obtain ⟨len1, l1, J1⟩ := fw_Jx (kd := 1) (t := fun z => ew_dc (¬ z ≤ W)) hok Hs hn (Or.inl rfl) hX.1 hJ hl
      have X1 := fw_X_early (kd := 1) (R := R) (t := fun z => ew_dc (¬ z ≤ W)) hb (L := ew_xl g e n) (fun x hx => ew_xl_O Hs (Nat.le_refl _) hx) hX
      rw [← h2] at X1 J1
      exact K W n m' bn bm ad len1 D bD e f p' pb X Rt R' Rb ak aT av pk ps pe pv bk bT bv b4 b5 b6 b7 ⟨hok, Hs, hE, h1, X1, J1, hokb, Hsb, hEb, HPb, HGb, hbad, had2, hperm⟩ (by omega) (by omega)
    · obtain ⟨k, hk, ek⟩ := pk_andE (a >>> ((2 : Int32) &&& 31)) (m := 1) 1 (by decide)
      obtain ⟨j, hj, ej⟩ := pk_andE cc (m := 127) 7 (by decide)
      have e4 : nI W - 48 + (cc &&& 127) = nI (W + j) - nI 48 := by
        rw [ej, ← nI_add, show (48 : Int32) = nI 48 from rfl]
        generalize nI W = x
        generalize nI j = y
        generalize nI 48 = z
        grind
      refine nm_r ek (xa_wm (nm_r e4 ?_))
      by_cases h : 48 ≤ W + j
      · rw [pk_sub h]
        exact br_t (nI_pos' (by omega)) (fw_151 hI l24 hW z2 (by omega) (by omega) K)
      · exact br_f (Int32.not_le.mpr (pk_sneg (by omega) (by omega))) (fw_151 (t := 0) hI l24 hW z2 (by omega) (by omega) K)
end
section
theorem fw_cg (x : Int32) : ∃ g, 0 < g ∧ g ≤ 1000 ∧ ∀ P : Int32 → Prop, P (nI g) → ((1 ≤ x → ((x ≤ 1000 → P x) ∧ (¬ x ≤ 1000 → P 1000))) ∧ (¬ 1 ≤ x → P 1)) := by
  by_cases h1 : 1 ≤ x
  · by_cases h2 : x ≤ 1000
    · obtain ⟨j, hj, rfl⟩ := nI_of2 (M := 1000) (n := 1000) (by decide) (Int32.not_lt.mpr (Int32.le_trans (by decide) h1)) h2
      have h3 : 1 ≤ j := (nI_leI (a := 1) (by omega) (by omega)).mp h1
      exact ⟨j, by omega, hj, fun P hP => br_t h1 (br_t h2 hP)⟩
    · exact ⟨1000, by omega, by omega, fun P hP => br_t h1 (br_f h2 hP)⟩
  · exact ⟨1, by omega, by omega, fun P hP => br_f h1 hP⟩
theorem fw_cl0 (x : Int32) : ∃ g, g ≤ 1000 ∧ ∀ P : Int32 → Prop, P (nI g) → ((0 ≤ x → ((x ≤ 1000 → P x) ∧ (¬ x ≤ 1000 → P 1000))) ∧ (¬ 0 ≤ x → P 0)) := by
  by_cases h1 : 0 ≤ x
  · by_cases h2 : x ≤ 1000
    · obtain ⟨j, hj, rfl⟩ := nI_of2 (M := 1000) (n := 1000) (by decide) (Int32.not_lt.mpr h1) h2
      exact ⟨j, hj, fun P hP => br_t h1 (br_t h2 hP)⟩
    · exact ⟨1000, by omega, fun P hP => br_t h1 (br_f h2 hP)⟩
  · exact ⟨0, by omega, fun P hP => br_f h1 hP⟩
theorem fw_init {p0 p1 : Int32} {g t : Nat} (G : ∀ P : Int32 → Prop, P (nI g) → ((1 ≤ p0 → ((p0 ≤ 1000 → P p0) ∧ (¬ p0 ≤ 1000 → P 1000))) ∧ (¬ 1 ≤ p0 → P 1))) (T : ∀ P : Int32 → Prop, P (nI t) → ((0 ≤ p1 → ((p1 ≤ 1000 → P p1) ∧ (¬ p1 ≤ 1000 → P 1000))) ∧ (¬ 0 ≤ p1 → P 0))) (post : St2 → Prop)
    (h : post (nI g, nI t, 0, 0, 0, 0, 0, (fun _ => 0), (fun _ => 0), (fun _ => 0), (fun _ => 0), (fun _ => 0), (fun _ => 0), (fun _ => 0), (fun _ => 0), (fun _ => 0), (fun _ => 0), (fun _ => 0), (fun _ => 0))) : wpX_init post 12 544 (0, 0, 0, 0, 0, 0, 0) p0 p1 :=
  ⟨by omega, by omega, by omega, by omega, by omega, by omega, by omega, by omega, by omega, by omega, by omega, by omega, by omega, by omega, by omega, by omega, by omega, by omega, by omega, by omega, by omega, by omega, by omega, by omega, G (fun r1 => wpX_clamp (fun r2 => post (r1, r2, 0, 0, 0, 0, 0, (fun _ => 0), (fun _ => 0), (fun _ => 0), (fun _ => 0), (fun _ => 0), (fun _ => 0), (fun _ => 0), (fun _ => 0), (fun _ => 0), (fun _ => 0), (fun _ => 0), (fun _ => 0))) () p1 0 1000) (T (fun r2 => post (nI g, r2, 0, 0, 0, 0, 0, (fun _ => 0), (fun _ => 0), (fun _ => 0), (fun _ => 0), (fun _ => 0), (fun _ => 0), (fun _ => 0), (fun _ => 0), (fun _ => 0), (fun _ => 0), (fun _ => 0), (fun _ => 0))) h)⟩
theorem i_vc (xs : Nat → Int32) (L : Nat) (hL : L ≤ 260) : wpL_law (fun r => r = 1) L xs := by
  refine fw_cell (k := 0) hL nI_0.symm (by omega) (fun a => fw_cell (k := 1) hL rfl (by omega) (fun b => ⟨12, 544, by omega, by omega, ?_⟩))
  obtain ⟨g, g1, g2, G⟩ := fw_cg (1 + (a &&& 15))
  obtain ⟨t, t1, T⟩ := fw_cl0 (b &&& 31)
  refine fw_init G T _ ⟨by omega, by omega, ⟨12, 544, by omega, by omega, ?_⟩⟩
  have G' : ∀ P : Int32 → Prop, P (nI g) → ((1 ≤ nI g → ((nI g ≤ 1000 → P (nI g)) ∧ (¬ nI g ≤ 1000 → P 1000))) ∧ (¬ 1 ≤ nI g → P 1)) := fun P hP => br_t (nI_le (a := 1) g1 (by omega)) (br_t (nI_le (b := 1000) g2 (by omega)) hP)
  have T' : ∀ P : Int32 → Prop, P (nI 0) → ((0 ≤ (0 : Int32) → (((0 : Int32) ≤ 1000 → P 0) ∧ (¬ (0 : Int32) ≤ 1000 → P 1000))) ∧ (¬ 0 ≤ (0 : Int32) → P 0)) := fun P hP => br_t (by decide) (br_t (by decide) hP)
  refine fw_init G' T' _ ⟨151, ?_⟩
  have z : ∀ {P : Nat → Prop} i, i < 0 → P i := fun i h => absurd h (Nat.not_lt_zero i)
  have F := fw_44 (g := g) (lt := t) (kc := 1 + 12 + 1 + 12) (ks := 19 + 544 + 19 + 544) (xs := xs) hL 150 0 (by omega) 0 0 0 0 0 0 0 0 0 (fun _ => (0, 0, 0)) (fun _ => (0, 0, 0)) (fun _ => (0, 0, 0, 0)) (fun _ => (0, 0, 0, 0)) [] [] ((fun _ => 0), (fun _ => 0), (fun _ => 0), (fun _ => 0), (fun _ => 0), 0) ((fun _ => 0), (fun _ => 0), (fun _ => 0), (fun _ => 0), (fun _ => 0), 0) (fun _ => 0) (fun _ => 0) (fun _ => 0) (fun _ => 0) (fun _ => 0) (fun _ => 0) (fun _ => 0) (fun _ => 0) (fun _ => 0) (fun _ => 0) (fun _ => 0) (fun _ => 0) (fun _ => 0) (fun _ => 0)
    ⟨⟨g1, g2, t1, by omega, by omega, z⟩, fun i j _ h => absurd h (Nat.not_lt_zero j), z, ⟨by omega, z⟩, fw_X0 g1, ⟨[], ⟨Nat.zero_le _, rfl, fun i x hx => by rw [List.getElem?_nil] at hx; cases hx⟩, rfl, fun x hx => absurd hx List.not_mem_nil, fun f => rfl⟩, ⟨g1, g2, by omega, by omega, by omega, z⟩, fun i j _ h => absurd h (Nat.not_lt_zero j), z, ⟨by omega, z⟩, ⟨List.Pairwise.nil, fun p hp => absurd hp List.not_mem_nil, Nat.zero_le _⟩, rfl, by omega, List.Perm.refl _⟩ (by omega) (by omega)
  exact F
end
