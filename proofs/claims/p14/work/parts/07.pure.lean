/-! what the walks ask of the pure part -/
section
variable {g n i j m q x : Nat} {e : Nat → ew_E}
theorem ew_ksX (hs : ew_srt e n) (hx : x < n) (hix : i ≤ x) (ho : ew_op g e i) (hno : ∀ j, i < j → j ≤ x → ¬ ew_op g e j) : ew_ks g e n x = ((e i).1, (e i).2.1) := by
  obtain ⟨q, hb⟩ := ew_bx (g := g) (e := e) (show i < n by omega)
  have hq : x < q := Nat.not_le.mp fun c => hno q hb.1 c (hb.2.2.2 (by omega))
  obtain ⟨k1, s1⟩ := ew_bf hs hb x hix hq
  have O := ew_opO hs (show i < n by omega) ho
  have m : ew_M (ew_L e n) (e x).1 (e x).2.1 := ew_iM hx
  unfold ew_ks
  rw [k1] at m ⊢
  rw [ew_st_e m O s1]
/-- an event stays as its session says -/
theorem ew_kp_k {l W : Nat} : ew_kp g (ew_L e n) l W (e i) = ew_dc (¬ ((ew_ss g (ew_L e n) (ew_ks g e n i)).2.2.1 + l ≤ W)) := rfl
theorem ew_Lad {α : Type} (e : Nat → α) (i : Nat) : ∀ d, ew_L e (i + d) = ew_L e i ++ ew_L (fun j => e (i + j)) d := by
  intro d
  induction d with
  | zero => exact (List.append_nil _).symm
  | succ d ih =>
    rw [← Nat.add_assoc, ew_Ls, ih, ew_Ls, List.append_assoc]
theorem ew_Lsp {α : Type} (e : Nat → α) (h : i ≤ n) : ew_L e n = ew_L e i ++ ew_L (fun j => e (i + j)) (n - i) := by
  rw [← ew_Lad, show i + (n - i) = n by omega]
/-- lists with one prefix of a length -/
theorem ew_Lpre {α : Type} {c e : Nat → α} {nc : Nat} {T : List α} (h : ew_L c nc = ew_L e q ++ T) : nc = q + T.length ∧ (∀ j, j < q → c j = e j) ∧ ew_L (fun j => c (q + j)) (nc - q) = T := by
  have hl := congrArg List.length h
  rw [List.length_append, ew_Ll, ew_Ll] at hl
  have h1 : ∀ j, j < q → c j = e j := by
    intro j hj
    have h2 := congrArg (fun l => l[j]?) h
    rw [ew_Lg (by omega), List.getElem?_append_left (by rw [ew_Ll]; exact hj), ew_Lg hj] at h2
    exact Option.some.inj h2
  refine ⟨hl, h1, ?_⟩
  have e1 : ew_L c q = ew_L e q := ew_Lc h1
  rw [ew_Lsp c (show q ≤ nc by omega), e1] at h
  exact List.append_cancel_left h
/-- one function for two lists -/
def ew_cat {α : Type} (a b : Nat → α) (i j : Nat) : α := if j < i then a j else b (j - i)
theorem ew_cat_L {α : Type} (a b : Nat → α) (i d : Nat) : ew_L (ew_cat a b i) (i + d) = ew_L a i ++ ew_L b d := by
  rw [ew_Lad]
  congr 1
  · exact ew_Lc (fun j hj => if_pos hj)
  · apply ew_Lc
    intro j _
    unfold ew_cat
    rw [if_neg (by omega), Nat.add_sub_cancel_left]
theorem ew_filt_all {α : Type} {l : List α} {P : α → Bool} (h : ∀ x, x ∈ l → P x = true) : l.filter P = l := List.filter_eq_self.mpr h
theorem ew_filt_none {α : Type} {l : List α} {P : α → Bool} (h : ∀ x, x ∈ l → P x = false) : l.filter P = [] := List.filter_eq_nil_iff.mpr (fun x hx z => by rw [h x hx] at z; cases z)
/-- the events behind q that stay -/
noncomputable def ew_T (g : Nat) (e : Nat → ew_E) (n l W q : Nat) : List ew_E := (ew_L (fun j => e (q + j)) (n - q)).filter (ew_kp g (ew_L e n) l W)
theorem ew_T_blk {l W : Nat} (hs : ew_srt e n) (hb : ew_blk g e n i q) (ho : ew_op g e i) : ∀ y, y ∈ ew_L (fun j => e (i + j)) (q - i) → ew_kp g (ew_L e n) l W y = ew_dc (¬ ((ew_ss g (ew_L e n) ((e i).1, (e i).2.1)).2.2.1 + l ≤ W)) := by
  intro y hy
  obtain ⟨j, hj, rfl⟩ := ew_Lm.mp hy
  have h1 := hb.1
  have h2 := hb.2.1
  rw [ew_kp_k, ew_ksX hs (x := i + j) (by omega) (by omega) ho (fun x a b => hb.2.2.1 x a (by omega))]
theorem ew_T_split {l W : Nat} (hb : ew_blk g e n i q) : ew_T g e n l W i = (ew_L (fun j => e (i + j)) (q - i)).filter (ew_kp g (ew_L e n) l W) ++ ew_T g e n l W q := by
  have h1 := hb.1
  have h2 := hb.2.1
  unfold ew_T
  rw [← List.filter_append]
  congr 1
  have := ew_Lad (fun j => e (i + j)) (q - i) (n - q)
  rw [show q - i + (n - q) = n - i by omega] at this
  rw [this]
  congr 1
  apply ew_Lc
  intro j _
  rw [show i + (q - i + j) = q + j by omega]
/-- the session at i stays -/
theorem ew_T_y {l W : Nat} (hs : ew_srt e n) (hb : ew_blk g e n i q) (ho : ew_op g e i) (h : ¬ ((ew_ss g (ew_L e n) ((e i).1, (e i).2.1)).2.2.1 + l ≤ W)) : ew_L e q ++ ew_T g e n l W q = ew_L e i ++ ew_T g e n l W i := by
  have h1 := hb.1
  rw [ew_T_split hb, ew_filt_all (fun y hy => by rw [ew_T_blk hs hb ho y hy]; exact ew_dcI.mpr h), ← List.append_assoc, ← ew_Lsp e (show i ≤ q by omega)]
/-- the session at i goes -/
theorem ew_T_n {l W : Nat} (hs : ew_srt e n) (hb : ew_blk g e n i q) (ho : ew_op g e i) (h : (ew_ss g (ew_L e n) ((e i).1, (e i).2.1)).2.2.1 + l ≤ W) : ew_T g e n l W q = ew_T g e n l W i := by
  rw [ew_T_split hb, ew_filt_none (fun y hy => by rw [ew_T_blk hs hb ho y hy]; exact ew_dcF.mpr (fun z => z h)), List.nil_append]
theorem ew_T_m {l W : Nat} {y : ew_E} (h : y ∈ ew_T g e n l W q) : ∃ j, q ≤ j ∧ j < n ∧ e j = y := by
  obtain ⟨j, hj, h2⟩ := ew_Lm.mp (List.mem_filter.mp h).1
  exact ⟨q + j, by omega, by omega, h2⟩
theorem ew_T_e {l W : Nat} : ew_T g e n l W n = [] := by
  unfold ew_T
  rw [Nat.sub_self]
  rfl
theorem ew_T_0 {l W : Nat} : ew_T g e n l W 0 = (ew_L e n).filter (ew_kp g (ew_L e n) l W) := by
  unfold ew_T
  have e1 : ew_L (fun j => e (0 + j)) (n - 0) = ew_L e n := ew_Lc (fun j _ => by rw [Nat.zero_add])
  rw [e1]
/-- the block at i, in the sequence c that has only the first q of e as they were -/
theorem ew_T_b {c : Nat → ew_E} {nc l W : Nat} (hs : ew_srt e n) (hb : ew_blk g e n i q) (h : ew_L c nc = ew_L e q ++ ew_T g e n l W q) : ew_blk g c nc i q := by
  obtain ⟨h1, h2, h3⟩ := ew_Lpre h
  have b1 := hb.1
  have b2 := hb.2.1
  have op_e : ∀ j, j < q → (ew_op g c j ↔ ew_op g e j) := by
    intro j hj
    unfold ew_op
    rw [h2 j hj, h2 (j - 1) (by omega)]
  refine ⟨b1, by omega, fun j a b z => hb.2.2.1 j a b ((op_e j b).mp z), fun c1 => ?_⟩
  have m : c q ∈ ew_T g e n l W q := by
    rw [← h3]
    exact ew_Lm.mpr ⟨0, by omega, rfl⟩
  obtain ⟨j, j1, j2, j3⟩ := ew_T_m m
  have oq := hb.2.2.2 (by omega)
  have s1 := hs (q - 1) q (by omega) (by omega)
  have s2 := hs q j j1 j2
  unfold ew_op at oq ⊢
  rw [← j3, h2 (q - 1) (by omega)]
  omega
end
section
variable {g n i j m x : Nat} {e : Nat → ew_E}
/-- panes that no expired session opening at a position from x on takes -/
noncomputable def ew_FX (g : Nat) (e : Nat → ew_E) (n l W x : Nat) (p : ew_P) : Bool :=
  ew_dc (∀ j, x ≤ j → j < n → ew_op g e j → (ew_ss g (ew_L e n) ((e j).1, (e j).2.1)).2.2.1 + l ≤ W → ¬ ew_bl (ew_ss g (ew_L e n) ((e j).1, (e j).2.1)) p)
theorem ew_FX_n {l W : Nat} (P : List ew_P) : P.filter (ew_FX g e n l W n) = P :=
  ew_filt_all (fun p _ => ew_dcI.mpr (fun j a b => by omega))
theorem ew_FX_0 {l W : Nat} (hs : ew_srt e n) (hg : 0 < g) : ew_FX g e n l W 0 = ew_pp g (ew_L e n) l W := by
  funext p
  apply ew_dcC
  constructor
  · intro h ks ho he
    have m := (ew_xl_m hs hg).mpr ho
    unfold ew_xl at m
    obtain ⟨j, hj, h2⟩ := List.mem_map.mp m
    obtain ⟨h3, h4⟩ := List.mem_filter.mp hj
    subst h2
    exact h j (Nat.zero_le _) (List.mem_range.mp h3) (ew_dcI.mp h4) he
  · intro h j _ hj ho he
    exact h ((e j).1, (e j).2.1) (ew_opO hs hj ho) he
theorem ew_FX_keep {l W : Nat} (P : List ew_P) (h : ¬ (ew_op g e x ∧ (ew_ss g (ew_L e n) ((e x).1, (e x).2.1)).2.2.1 + l ≤ W)) : P.filter (ew_FX g e n l W (x + 1)) = P.filter (ew_FX g e n l W x) := by
  congr 1
  funext p
  apply ew_dcC
  constructor
  · intro z j a b c d
    by_cases f : j = x
    · subst f
      exact absurd ⟨c, d⟩ h
    · exact z j (by omega) b c d
  · intro z j a
    exact z j (by omega)
theorem ew_FX_go {l W : Nat} (P : List ew_P) (hx : x < n) (ho : ew_op g e x) (h : (ew_ss g (ew_L e n) ((e x).1, (e x).2.1)).2.2.1 + l ≤ W) : ew_N (ew_ss g (ew_L e n) ((e x).1, (e x).2.1)) (P.filter (ew_FX g e n l W (x + 1))) = P.filter (ew_FX g e n l W x) := by
  unfold ew_N
  rw [List.filter_filter]
  congr 1
  funext p
  rw [Bool.eq_iff_iff, Bool.and_eq_true, ew_dcI]
  unfold ew_FX
  rw [ew_dcI, ew_dcI]
  constructor
  · rintro ⟨z1, z2⟩ j a b c d
    by_cases f : j = x
    · subst f
      exact z1
    · exact z2 j (by omega) b c d
  · intro z
    exact ⟨z x (Nat.le_refl _) hx ho h, fun j a => z j (by omega)⟩
variable {lb : Nat → Nat}
/-- panes that no expired session with a representative below x takes -/
noncomputable def ew_FY (g : Nat) (e : Nat → ew_E) (n : Nat) (lb : Nat → Nat) (l W x : Nat) (p : ew_P) : Bool :=
  ew_dc (∀ j, j < x → lb j = j → (ew_ss g (ew_L e n) (ew_ks g e n j)).2.2.1 + l ≤ W → ¬ ew_bl (ew_ss g (ew_L e n) (ew_ks g e n j)) p)
theorem ew_FY_0 {l W : Nat} (P : List ew_P) : P.filter (ew_FY g e n lb l W 0) = P :=
  ew_filt_all (fun p _ => ew_dcI.mpr (fun j a => by omega))
theorem ew_FY_n {l W : Nat} (h : ew_lab g e n lb) : ew_FY g e n lb l W n = ew_pp g (ew_L e n) l W := by
  funext p
  apply ew_dcC
  constructor
  · intro z ks ho he
    have m := (ew_yl_m h).mpr ho
    unfold ew_yl at m
    obtain ⟨j, hj, h2⟩ := List.mem_map.mp m
    obtain ⟨h3, h4⟩ := List.mem_filter.mp hj
    subst h2
    exact z j (List.mem_range.mp h3) (ew_dcI.mp h4) he
  · intro z j hj _ he
    exact z (ew_ks g e n j) (ew_ks_O hj) he
theorem ew_FY_keep {l W : Nat} (P : List ew_P) (h : ¬ (lb x = x ∧ (ew_ss g (ew_L e n) (ew_ks g e n x)).2.2.1 + l ≤ W)) : P.filter (ew_FY g e n lb l W (x + 1)) = P.filter (ew_FY g e n lb l W x) := by
  congr 1
  funext p
  apply ew_dcC
  constructor
  · intro z j a
    exact z j (by omega)
  · intro z j a c d
    by_cases f : j = x
    · subst f
      exact absurd ⟨c, d⟩ h
    · exact z j (by omega) c d
theorem ew_FY_go {l W : Nat} (P : List ew_P) (ho : lb x = x) (h : (ew_ss g (ew_L e n) (ew_ks g e n x)).2.2.1 + l ≤ W) : ew_N (ew_ss g (ew_L e n) (ew_ks g e n x)) (P.filter (ew_FY g e n lb l W x)) = P.filter (ew_FY g e n lb l W (x + 1)) := by
  unfold ew_N
  rw [List.filter_filter]
  congr 1
  funext p
  rw [Bool.eq_iff_iff, Bool.and_eq_true, ew_dcI]
  unfold ew_FY
  rw [ew_dcI, ew_dcI]
  constructor
  · rintro ⟨z1, z2⟩ j a c d
    by_cases f : j = x
    · subst f
      exact z1
    · exact z2 j (by omega) c d
  · intro z
    exact ⟨z x (by omega) ho h, fun j a => z j (by omega)⟩
end
section
variable {m x y : Nat} {q : Nat → ew_P} {P : List ew_P}
theorem ew_prank (hp : P.Perm (ew_L q m)) (hs : P.Pairwise ew_pl) (hx : P[x]? = some (q y)) : ew_ct (fun j => ew_dc (ew_pl (q j) (q y))) m = x := by
  rw [← ew_ct_L q (fun z => ew_dc (ew_pl z (q y))), ← List.countP_eq_length_filter, ← hp.countP_eq]
  exact ew_rk ew_pl (fun _ _ => ew_pl_as) P hs x (q y) hx
theorem ew_prankx (hp : P.Perm (ew_L q m)) (hs : P.Pairwise ew_pl) (hy : y < m) (hx : ew_ct (fun j => ew_dc (ew_pl (q j) (q y))) m = x) : P[x]? = some (q y) := by
  obtain ⟨z, hz⟩ := List.mem_iff_getElem?.mp (hp.mem_iff.mpr (ew_Lm.mpr ⟨y, hy, rfl⟩))
  rw [← hx, ew_prank hp hs hz]
  exact hz
theorem ew_ppx (hp : P.Perm (ew_L q m)) (hs : P.Pairwise ew_pl) (hx : x < m) : ∃ y, y < m ∧ ew_ct (fun j => ew_dc (ew_pl (q j) (q y))) m = x := by
  have hl : P.length = m := hp.length_eq.trans (ew_Ll q m)
  obtain ⟨y, hy, h2⟩ := ew_Lm.mp (hp.mem_iff.mp (List.getElem_mem (show x < P.length by omega)))
  exact ⟨y, hy, ew_prank hp hs (by rw [h2]; exact List.getElem?_eq_getElem _)⟩
/-- the least start among those that belong is the first in order -/
theorem ew_pick {s b z : ew_P} {B N Q : List ew_P} (hQ : Q.Perm ((b :: B) ++ N)) (hs : (b :: B).Pairwise ew_pl) (hB : ∀ y, y ∈ b :: B → ew_bl s y) (hN : ∀ y, y ∈ N → ¬ ew_bl s y)
    (hz : z ∈ Q) (bz : ew_bl s z) (mn : ∀ y, y ∈ Q → ew_bl s y → z.2.1 ≤ y.2.1) : z = b := by
  rcases List.mem_append.mp (hQ.mem_iff.mp hz) with h | h
  · rcases List.mem_cons.mp h with h | h
    · exact h
    · have h1 := (List.pairwise_cons.mp hs).1 z h
      have h2 := mn b (hQ.mem_iff.mpr (List.mem_append.mpr (Or.inl List.mem_cons_self))) (hB b List.mem_cons_self)
      have h3 := (hB b List.mem_cons_self).1
      have h4 := bz.1
      unfold ew_pl ew_lt ew_pk at h1
      dsimp only at h1
      omega
  · exact absurd bz (hN z h)
end
section
variable {g n i j m x : Nat} {e : Nat → ew_E}
theorem ew_ct_pos {p : Nat → Bool} : ∀ m, 0 < ew_ct p m ↔ ∃ i, i < m ∧ p i = true := by
  intro m
  induction m with
  | zero => exact ⟨fun h => absurd h (Nat.lt_irrefl 0), fun ⟨i, h, _⟩ => absurd h (Nat.not_lt_zero i)⟩
  | succ m ih =>
    rw [ew_ct]
    by_cases c : p m = true
    · rw [if_pos c]
      exact ⟨fun _ => ⟨m, Nat.lt_succ_self m, c⟩, fun _ => Nat.succ_pos _⟩
    · rw [if_neg c, ih]
      constructor
      · rintro ⟨i, h, h2⟩
        exact ⟨i, by omega, h2⟩
      · rintro ⟨i, h, h2⟩
        have : i ≠ m := fun z => c (z ▸ h2)
        exact ⟨i, by omega, h2⟩
/-- pane p is x itself -/
def ew_mt (x p : ew_P) : Prop := ew_bl x p ∧ p.2.1 = x.2.1 ∧ p.2.2.1 = x.2.2.1 ∧ p.2.2.2 = x.2.2.2
theorem ew_syncX {P : List ew_P} {p : Nat → ew_P} {x : ew_P} (hp : P.Perm (ew_L p m)) : ew_B x P = [x] ↔ ew_ct (fun i => ew_dc (ew_bl x (p i))) m = 1 ∧ ew_ct (fun i => ew_dc (ew_mt x (p i))) m = 1 := by
  rw [ew_sync hp]
  have e1 : (ew_B x (ew_L p m)).length = ew_ct (fun i => ew_dc (ew_bl x (p i))) m := ew_ct_L p (fun y => ew_dc (ew_bl x y)) m
  have h2 := ew_ct_mono (p := fun i => ew_dc (ew_mt x (p i))) (p' := fun i => ew_dc (ew_bl x (p i))) (m := m) (fun i _ z => ew_dcI.mpr (ew_dcI.mp z).1)
  have h3 := ew_ct_pos (p := fun i => ew_dc (ew_mt x (p i))) m
  rw [e1]
  constructor
  · rintro ⟨a, y, hy, b, c1, c2, c3⟩
    obtain ⟨i, hi, rfl⟩ := ew_Lm.mp hy
    have := h3.mpr ⟨i, hi, ew_dcI.mpr ⟨b, c1, c2, c3⟩⟩
    exact ⟨a, by omega⟩
  · rintro ⟨a, b⟩
    obtain ⟨i, hi, hm⟩ := h3.mp (by omega)
    obtain ⟨d, c1, c2, c3⟩ := ew_dcI.mp hm
    exact ⟨a, p i, ew_Lm.mpr ⟨i, hi, rfl⟩, d, c1, c2, c3⟩
theorem ew_syncY {P : List ew_P} {p : Nat → ew_P} {x : ew_P} (hp : P.Perm (ew_L p m)) : ew_B x P = [x] ↔ ew_ct (fun i => ew_dc (ew_bl x (p i))) m = 1 ∧ 0 < ew_ct (fun i => ew_dc (ew_mt x (p i))) m := by
  rw [ew_syncX hp]
  have h2 := ew_ct_mono (p := fun i => ew_dc (ew_mt x (p i))) (p' := fun i => ew_dc (ew_bl x (p i))) (m := m) (fun i _ z => ew_dcI.mpr (ew_dcI.mp z).1)
  omega
/-- what holds of the numbers: gap, lateness, watermark, stored events -/
def ew_ok (g l W n : Nat) (e : Nat → ew_E) : Prop := 0 < g ∧ g ≤ 1000 ∧ l ≤ 1000 ∧ W ≤ 2100000 ∧ n ≤ 32 ∧ ∀ i, i < n → (e i).1 ≤ 7 ∧ (e i).2.1 ≤ 1000000
theorem ew_okM {l W k t : Nat} (h : ew_ok g l W n e) (m : ew_M (ew_L e n) k t) : k ≤ 7 ∧ t ≤ 1000000 := by
  obtain ⟨i, hi, h1, h2⟩ := ew_ML.mp m
  have := h.2.2.2.2.2 i hi
  omega
theorem ew_okP {l W : Nat} {P : List ew_P} {p : ew_P} (h : ew_ok g l W n e) (hG : ew_G g (ew_L e n) P) (hp : p ∈ P) : p.1 ≤ 7 ∧ p.2.1 < p.2.2.1 ∧ p.2.2.1 ≤ 1001000 := by
  obtain ⟨lt, a, b, ma, mb, sab, la, lb⟩ := hG.2.1 p hp
  have h1 := ew_okM h ma
  have h2 := ew_okM h mb
  have := h.2.1
  omega
theorem ew_okS {l W : Nat} {ks : Nat × Nat} (h : ew_ok g l W n e) (ho : ew_O g (ew_M (ew_L e n)) ks.1 ks.2) : (ew_ss g (ew_L e n) ks).1 ≤ 7 ∧ (ew_ss g (ew_L e n) ks).2.1 ≤ 1000000 ∧ (ew_ss g (ew_L e n) ks).2.2.1 ≤ 1001000 := by
  obtain ⟨b, mb, s, he, l1, _⟩ := ew_ss_e ho
  have h1 := ew_okM h ho.1
  have h2 := ew_okM h mb
  have h3 := h.2.1
  refine ⟨h1.1, h1.2, ?_⟩
  show (ew_ss g (ew_L e n) (ks.1, ks.2)).2.2.1 ≤ 1001000
  rw [he]
  omega
theorem ew_ok_p {l W : Nat} {f : Nat → ew_E} (h : ew_ok g l W n e) (hp : (ew_L e n).Perm (ew_L f n)) : ew_ok g l W n f := by
  obtain ⟨h1, h2, h3, h4, h5, h6⟩ := h
  refine ⟨h1, h2, h3, h4, h5, fun i hi => ?_⟩
  obtain ⟨j, hj, he⟩ := ew_Lm.mp (hp.mem_iff.mpr (ew_Lm.mpr ⟨i, hi, rfl⟩))
  rw [← he]
  exact h6 j hj
/-- arrays that hold events -/
def ew_aE (n : Nat) (e : Nat → ew_E) (ak aT av : Nat → Int32) : Prop := ∀ i, i < n → ak i = nI (e i).1 ∧ aT i = nI (e i).2.1 ∧ av i = (e i).2.2
/-- arrays that hold panes -/
def ew_aP (m : Nat) (p : Nat → ew_P) (pk ps pe pv : Nat → Int32) : Prop := ∀ i, i < m → pk i = nI (p i).1 ∧ ps i = nI (p i).2.1 ∧ pe i = nI (p i).2.2.1 ∧ pv i = (p i).2.2.2
theorem ew_abs {a b : Nat} (ha : a < 2 ^ 30) (hb : b < 2 ^ 30) {A B : Int32 → Prop} (h1 : a < b → A (nI (b - a))) (h2 : b ≤ a → B (nI (a - b))) : (nI a - nI b < 0 → A (-(nI a - nI b))) ∧ (¬ nI a - nI b < 0 → B (nI a - nI b)) := by
  by_cases c : a < b
  · refine br_t (pk_sneg hb c) ?_
    rw [Int32.neg_sub, pk_sub (by omega)]
    exact h1 c
  · rw [pk_sub (by omega)]
    exact br_f (nI_pos (by omega)) (h2 (by omega))
end
section
variable {n m b : Nat}
theorem ew_put_a {α : Type} {f : Nat → α} {x : α} {j : Nat} (h : j < b) : ew_put f x b j = f j := if_pos h
theorem ew_put_b {α : Type} {f : Nat → α} {x : α} : ew_put f x b b = x := by
  unfold ew_put
  rw [if_neg (Nat.lt_irrefl b), if_pos rfl]
theorem ew_put_c {α : Type} {f : Nat → α} {x : α} {j : Nat} (h : b < j) : ew_put f x b j = f (j - 1) := by
  unfold ew_put
  rw [if_neg (by omega), if_neg (by omega)]
theorem ew_put_s {e : Nat → ew_E} {k t : Nat} {v : Int32} (hs : ew_srt e n) (hb : b ≤ n) (h1 : ∀ j, b ≤ j → j < n → k < (e j).1 ∨ (k = (e j).1 ∧ t < (e j).2.1)) (h2 : b = 0 ∨ (e (b - 1)).1 < k ∨ ((e (b - 1)).1 = k ∧ (e (b - 1)).2.1 ≤ t)) : ew_srt (ew_put e (k, t, v) b) (n + 1) := by
  intro i j hij hj
  by_cases a : i < b
  · rw [ew_put_a a]
    by_cases c : j < b
    · rw [ew_put_a c]
      exact hs i j hij (by omega)
    · by_cases d : j = b
      · rw [d, ew_put_b]
        have := hs i (b - 1) (by omega) (by omega)
        dsimp only
        omega
      · rw [ew_put_c (show b < j by omega)]
        exact hs i (j - 1) (by omega) (by omega)
  · by_cases a2 : i = b
    · rw [a2, ew_put_b]
      by_cases d : j = b
      · rw [d, ew_put_b]
        exact Or.inr ⟨rfl, Nat.le_refl _⟩
      · rw [ew_put_c (show b < j by omega)]
        have := h1 (j - 1) (by omega) (by omega)
        dsimp only
        omega
    · rw [ew_put_c (show b < i by omega), ew_put_c (show b < j by omega)]
      exact hs (i - 1) (j - 1) (by omega) (by omega)
theorem ew_put_l {p : Nat → ew_P} {x : ew_P} (hs : (ew_L p m).Pairwise ew_pl) (hb : b ≤ m) (h1 : ∀ j, b ≤ j → j < m → ew_pl x (p j)) (h2 : b = 0 ∨ ¬ ew_pl x (p (b - 1))) (hne : ∀ y, y ∈ ew_L p m → ew_pk y ≠ ew_pk x) : ew_L (ew_put p x b) (m + 1) = ew_ins x (ew_L p m) := by
  refine ew_srt1 ?_ (ew_ins_s x _ hs hne) ((ew_put_p p x b m hb).trans (ew_ins_p x _).symm)
  have hs' := (ew_Lp m).mp hs
  apply (ew_Lp (m + 1)).mpr
  have tr : ∀ {a b c : ew_P}, ew_pl a b → ew_pl b c → ew_pl a c := by
    intro a b c u v
    unfold ew_pl ew_lt at u v ⊢
    omega
  have low : ∀ i, i < b → ew_pl (p i) x := by
    intro i hi
    have h3 : ew_pl (p (b - 1)) x := by
      have n1 := hne (p (b - 1)) (ew_Lm.mpr ⟨b - 1, by omega, rfl⟩)
      have n2 : ¬ ew_pl x (p (b - 1)) := by
        rcases h2 with h2 | h2
        · omega
        · exact h2
      unfold ew_pl ew_lt at n2 ⊢
      by_cases k1 : (ew_pk (p (b - 1))).1 = (ew_pk x).1
      · have k3 : (ew_pk (p (b - 1))).2 ≠ (ew_pk x).2 := fun k2 => n1 (Prod.ext k1 k2)
        omega
      · omega
    by_cases c : i = b - 1
    · rw [c]
      exact h3
    · exact tr (hs' i (b - 1) (by omega) (by omega)) h3
  intro i j hij hj
  by_cases a : i < b
  · rw [ew_put_a a]
    by_cases c : j < b
    · rw [ew_put_a c]
      exact hs' i j hij (by omega)
    · by_cases d : j = b
      · rw [d, ew_put_b]
        exact low i a
      · rw [ew_put_c (show b < j by omega)]
        by_cases f : i = j - 1
        · omega
        · exact hs' i (j - 1) (by omega) (by omega)
  · by_cases a2 : i = b
    · rw [a2, ew_put_b, ew_put_c (show b < j by omega)]
      exact h1 (j - 1) (by omega) (by omega)
    · rw [ew_put_c (show b < i by omega), ew_put_c (show b < j by omega)]
      exact hs' (i - 1) (j - 1) (by omega) (by omega)
end
