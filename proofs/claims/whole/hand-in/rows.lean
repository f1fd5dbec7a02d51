section
theorem pk_us {f : Nat → Int32} {k : Nat} {x : Int32} : upd f k x k = x := if_pos rfl
theorem pk_un {f : Nat → Int32} {k j : Nat} {x : Int32} (h : j ≠ k) : upd f k x j = f j := if_neg h
theorem pk_sub {a b : Nat} (h : b ≤ a) : nI a - nI b = nI (a - b) := by
  obtain ⟨c, rfl⟩ : ∃ c, a = c + b := ⟨a - b, by omega⟩
  rw [← nI_add, Int32.add_sub_cancel, Nat.add_sub_cancel]
theorem pk_m1 (n : Nat) : nI (n + 1) + (-1) = nI n := by
  rw [← nI_1, Int32.add_assoc, show (1 : Int32) + (-1) = 0 from rfl, Int32.add_zero]
theorem pk_sub_toInt {a b : Nat} (ha : a < 2 ^ 30) (hb : b < 2 ^ 30) : (nI a - nI b).toInt = (a : Int) - b := by
  rw [Int32.toInt_sub, nI_toInt (by omega), nI_toInt (by omega)]
  exact Int.bmod_eq_of_le (by omega) (by omega)
theorem pk_sneg {a b : Nat} (hb : b < 2 ^ 30) (h : a < b) : nI a - nI b < 0 := by
  rw [Int32.lt_iff_toInt_lt, pk_sub_toInt (by omega) hb, show (0 : Int32).toInt = 0 from by decide]
  omega
theorem pk_ix (x : Int32) {n : Nat} (hn : n < 2 ^ 31) : x < 0 ∨ nI n ≤ x ∨ ∃ j : Nat, j < n ∧ x = nI j := by
  by_cases h : x < 0
  · exact Or.inl h
  · obtain ⟨j, hj, rfl⟩ := nI_of h
    by_cases h2 : j < n
    · exact Or.inr (Or.inr ⟨j, h2, rfl⟩)
    · exact Or.inr (Or.inl (nI_le (by omega) hj))
theorem pk_le {x y : Int32} {A B : Prop} (a b : Nat) (f : a ≤ b → A) (g : b < a → B) (hx : x = nI a := by rfl) (hy : y = nI b := by rfl) (ha : a < 2 ^ 31 := by omega) (hb : b < 2 ^ 31 := by omega) : (x ≤ y → A) ∧ (¬ x ≤ y → B) := by
  subst hx hy
  rw [nI_leI ha hb]
  exact ⟨f, fun z => g (by omega)⟩
theorem pk_lt {x y : Int32} {A B : Prop} (a b : Nat) (f : a < b → A) (g : b ≤ a → B) (hx : x = nI a := by rfl) (hy : y = nI b := by rfl) (ha : a < 2 ^ 31 := by omega) (hb : b < 2 ^ 31 := by omega) : (x < y → A) ∧ (¬ x < y → B) := by
  subst hx hy
  rw [nI_ltI ha hb]
  exact ⟨f, fun z => g (by omega)⟩
theorem pk_eq {x y : Int32} {A B : Prop} (a b : Nat) (f : a = b → A) (g : a ≠ b → B) (hx : x = nI a := by rfl) (hy : y = nI b := by rfl) (ha : a < 2 ^ 31 := by omega) (hb : b < 2 ^ 31 := by omega) : (x = y → A) ∧ (¬ x = y → B) := by
  subst hx hy
  rw [nI_eq ha hb]
  exact ⟨f, g⟩
theorem pk_in {x : Int32} (n N : Nat) (h : n < N) (hx : x = nI n := by rfl) (hN : N < 2 ^ 31 := by omega) : vp_in x N := by
  subst hx
  exact vp_in_nI h hN
theorem pk_cl {x : Int32} (n : Nat) (hx : x = nI n := by rfl) (h : n < 2 ^ 31 := by omega) : x.toNatClampNeg = n := by
  subst hx
  exact nI_clamp h
theorem pk_tn {n : Nat} (h : n < 2 ^ 32) : (nI n).toBitVec.toNat = n := Nat.mod_eq_of_lt h
theorem pk_and (x : Int32) {m : Int32} (k : Nat) (hm : m.toBitVec.toNat = 2 ^ k - 1) : x &&& m = nI (x.toBitVec.toNat % 2 ^ k) := by
  apply Int32.toBitVec_inj.mp
  apply BitVec.eq_of_toNat_eq
  rw [Int32.toBitVec_and, BitVec.toNat_and, hm, Nat.and_two_pow_sub_one_eq_mod]
  show _ = (BitVec.ofNat 32 _).toNat
  rw [BitVec.toNat_ofNat]
  exact (Nat.mod_eq_of_lt (Nat.lt_of_le_of_lt (Nat.mod_le _ _) x.toBitVec.isLt)).symm
theorem pk_andE (x : Int32) {m : Int32} (k : Nat) (hm : m.toBitVec.toNat = 2 ^ k - 1) : ∃ j : Nat, j < 2 ^ k ∧ x &&& m = nI j := ⟨_, Nat.mod_lt _ (Nat.two_pow_pos k), pk_and x k hm⟩
theorem pk_andIn (x : Int32) {m : Int32} (k : Nat) (hm : m.toBitVec.toNat = 2 ^ k - 1) (hk : k ≤ 30) : vp_in (x &&& m) (2 ^ k) := by
  obtain ⟨j, hj, e⟩ := pk_andE x k hm
  rw [e]
  exact vp_in_nI hj (Nat.lt_of_le_of_lt (Nat.pow_le_pow_right (by decide) hk) (by decide))
theorem pk_loop {σ : Type} (W : Nat → Nat → σ → Prop) (I : Nat → σ → Prop) (e i0 : Nat) (s : σ) (hi : i0 ≤ e) (h0 : I i0 s) (hx : ∀ n s, I e s → W (n + 1) e s)
    (hs : ∀ n i s, i < e → I i s → (∀ s', I (i + 1) s' → W n (i + 1) s') → W (n + 1) i s) : ∃ n, W n i0 s :=
  ⟨e + 1, loop_i W I e hx hs (e + 1) i0 s hi (by omega) h0⟩
theorem pk_loopD {σ : Type} (W : Nat → Nat → σ → Prop) (I : Nat → σ → Prop) (hx : ∀ n s, I 0 s → W (n + 1) 0 s)
    (hs : ∀ n i s, I (i + 1) s → (∀ s', I i s' → W n i s') → W (n + 1) (i + 1) s) : ∀ (e : Nat) (s : σ), I e s → W (e + 1) e s := by
  intro e
  induction e with
  | zero => exact fun s h => hx 0 s h
  | succ e ih => exact fun s h => hs (e + 1) e s h (fun s' h' => ih s' h')
theorem lp1 {A1 : Type} (W : Nat → A1 → Prop) (I : A1 → Prop) (μ : A1 → Nat) (hs : ∀ (n : Nat) (a1 : A1), I a1 → (∀ (b1 : A1), I b1 → μ b1 < μ a1 → W n b1) → W (n + 1) a1) (a1 : A1) (h : I a1) : ∃ n, W n a1 :=
  loop_m (σ := A1) (fun n s => W n s) (fun s => I s) (fun s => μ s) (fun n s hI hk => hs n s hI (fun b1 h9 hm => hk b1 h9 hm)) a1 h
theorem lp2 {A1 A2 : Type} (W : Nat → A1 → A2 → Prop) (I : A1 → A2 → Prop) (μ : A1 → A2 → Nat) (hs : ∀ (n : Nat) (a1 : A1) (a2 : A2), I a1 a2 → (∀ (b1 : A1) (b2 : A2), I b1 b2 → μ b1 b2 < μ a1 a2 → W n b1 b2) → W (n + 1) a1 a2) (a1 : A1) (a2 : A2) (h : I a1 a2) : ∃ n, W n a1 a2 :=
  loop_m (σ := A1 × A2) (fun n s => W n s.1 s.2) (fun s => I s.1 s.2) (fun s => μ s.1 s.2) (fun n s hI hk => hs n s.1 s.2 hI (fun b1 b2 h9 hm => hk (b1, b2) h9 hm)) (a1, a2) h
theorem lp3 {A1 A2 A3 : Type} (W : Nat → A1 → A2 → A3 → Prop) (I : A1 → A2 → A3 → Prop) (μ : A1 → A2 → A3 → Nat) (hs : ∀ (n : Nat) (a1 : A1) (a2 : A2) (a3 : A3), I a1 a2 a3 → (∀ (b1 : A1) (b2 : A2) (b3 : A3), I b1 b2 b3 → μ b1 b2 b3 < μ a1 a2 a3 → W n b1 b2 b3) → W (n + 1) a1 a2 a3) (a1 : A1) (a2 : A2) (a3 : A3) (h : I a1 a2 a3) : ∃ n, W n a1 a2 a3 :=
  loop_m (σ := A1 × A2 × A3) (fun n s => W n s.1 s.2.1 s.2.2) (fun s => I s.1 s.2.1 s.2.2) (fun s => μ s.1 s.2.1 s.2.2) (fun n s hI hk => hs n s.1 s.2.1 s.2.2 hI (fun b1 b2 b3 h9 hm => hk (b1, b2, b3) h9 hm)) (a1, a2, a3) h
theorem lp4 {A1 A2 A3 A4 : Type} (W : Nat → A1 → A2 → A3 → A4 → Prop) (I : A1 → A2 → A3 → A4 → Prop) (μ : A1 → A2 → A3 → A4 → Nat) (hs : ∀ (n : Nat) (a1 : A1) (a2 : A2) (a3 : A3) (a4 : A4), I a1 a2 a3 a4 → (∀ (b1 : A1) (b2 : A2) (b3 : A3) (b4 : A4), I b1 b2 b3 b4 → μ b1 b2 b3 b4 < μ a1 a2 a3 a4 → W n b1 b2 b3 b4) → W (n + 1) a1 a2 a3 a4) (a1 : A1) (a2 : A2) (a3 : A3) (a4 : A4) (h : I a1 a2 a3 a4) : ∃ n, W n a1 a2 a3 a4 :=
  loop_m (σ := A1 × A2 × A3 × A4) (fun n s => W n s.1 s.2.1 s.2.2.1 s.2.2.2) (fun s => I s.1 s.2.1 s.2.2.1 s.2.2.2) (fun s => μ s.1 s.2.1 s.2.2.1 s.2.2.2) (fun n s hI hk => hs n s.1 s.2.1 s.2.2.1 s.2.2.2 hI (fun b1 b2 b3 b4 h9 hm => hk (b1, b2, b3, b4) h9 hm)) (a1, a2, a3, a4) h
theorem lp5 {A1 A2 A3 A4 A5 : Type} (W : Nat → A1 → A2 → A3 → A4 → A5 → Prop) (I : A1 → A2 → A3 → A4 → A5 → Prop) (μ : A1 → A2 → A3 → A4 → A5 → Nat) (hs : ∀ (n : Nat) (a1 : A1) (a2 : A2) (a3 : A3) (a4 : A4) (a5 : A5), I a1 a2 a3 a4 a5 → (∀ (b1 : A1) (b2 : A2) (b3 : A3) (b4 : A4) (b5 : A5), I b1 b2 b3 b4 b5 → μ b1 b2 b3 b4 b5 < μ a1 a2 a3 a4 a5 → W n b1 b2 b3 b4 b5) → W (n + 1) a1 a2 a3 a4 a5) (a1 : A1) (a2 : A2) (a3 : A3) (a4 : A4) (a5 : A5) (h : I a1 a2 a3 a4 a5) : ∃ n, W n a1 a2 a3 a4 a5 :=
  loop_m (σ := A1 × A2 × A3 × A4 × A5) (fun n s => W n s.1 s.2.1 s.2.2.1 s.2.2.2.1 s.2.2.2.2) (fun s => I s.1 s.2.1 s.2.2.1 s.2.2.2.1 s.2.2.2.2) (fun s => μ s.1 s.2.1 s.2.2.1 s.2.2.2.1 s.2.2.2.2) (fun n s hI hk => hs n s.1 s.2.1 s.2.2.1 s.2.2.2.1 s.2.2.2.2 hI (fun b1 b2 b3 b4 b5 h9 hm => hk (b1, b2, b3, b4, b5) h9 hm)) (a1, a2, a3, a4, a5) h
theorem pk_least (P : Nat → Prop) (h : ∃ k, P k) : ∃ k, P k ∧ ∀ j, j < k → ¬ P j := by
  obtain ⟨k, hk⟩ := h
  induction k using Nat.strongRecOn with
  | ind k ih =>
    by_cases e : ∃ j, j < k ∧ P j
    · obtain ⟨j, hj, pj⟩ := e
      exact ih j hj pj
    · exact ⟨k, hk, fun j hj pj => e ⟨j, hj, pj⟩⟩
theorem ek_if {c d A B : Prop} (e : c ↔ d) (f : d → A) (g : ¬ d → B) : (c → A) ∧ (¬ c → B) :=
  ⟨fun z => f (e.mp z), fun z => g (fun y => z (e.mpr y))⟩
theorem ek_v {α : Sort _} {P : α → Prop} {a b : α} (e : a = b) (h : P b) : P a := e ▸ h
end
section
/-! sessions, without any machine: openers, same session, blocks of a sorted sequence -/
section
noncomputable def ew_dc (p : Prop) : Bool := @decide p (Classical.propDecidable p)
theorem ew_dcI {p : Prop} : ew_dc p = true ↔ p := @decide_eq_true_iff p (Classical.propDecidable p)
theorem ew_dcF {p : Prop} : ew_dc p = false ↔ ¬ p := by
  rw [← Bool.not_eq_true, ew_dcI]
theorem ew_dcC {p q : Prop} (h : p ↔ q) : ew_dc p = ew_dc q := by rw [propext h]
/-- an event of key k at time t opens a session -/
def ew_O (g : Nat) (M : Nat → Nat → Prop) (k t : Nat) : Prop := M k t ∧ ∀ t', M k t' → t' < t → t' + g ≤ t
/-- times a and b of key k are in one session: no opener between them -/
def ew_S (g : Nat) (M : Nat → Nat → Prop) (k a b : Nat) : Prop := ∀ o, ew_O g M k o → (o ≤ a ↔ o ≤ b)
variable {g k a b c o t n i j q : Nat} {M M' : Nat → Nat → Prop}
theorem ew_Sr : ew_S g M k a a := fun _ _ => Iff.rfl
theorem ew_Ss (h : ew_S g M k a b) : ew_S g M k b a := fun o ho => (h o ho).symm
theorem ew_St (h : ew_S g M k a b) (h' : ew_S g M k b c) : ew_S g M k a c := fun o ho => (h o ho).trans (h' o ho)
theorem ew_lk (ha : M k a) (h1 : a ≤ b) (h2 : b < a + g) : ew_S g M k a b := by
  intro o ho
  refine ⟨fun h => Nat.le_trans h h1, fun h => ?_⟩
  refine Nat.not_lt.mp fun c => ?_
  have := ho.2 a ha c
  omega
theorem ew_O1 (h : ew_O g M k a) (h' : ew_O g M k b) (s : ew_S g M k a b) : a = b := by
  have h1 := (s a h).mp (Nat.le_refl _)
  have h2 := (s b h').mpr (Nat.le_refl _)
  omega
theorem ew_lo (ho : ew_O g M k o) (s : ew_S g M k o t) : o ≤ t := (s o ho).mp (Nat.le_refl _)
theorem ew_nO (hM : M k t) (h : ¬ ew_O g M k t) : ∃ t', M k t' ∧ t' < t ∧ t < t' + g := by
  refine Classical.byContradiction fun c => h ⟨hM, fun t' m l => ?_⟩
  refine Classical.byContradiction fun d => c ⟨t', m, l, ?_⟩
  omega
theorem ew_dn (C : Nat → Prop) (hC : ∀ a b, M k a → M k b → a ≤ b → b < a + g → (C a ↔ C b)) : ∀ t, M k t → ∃ o, ew_O g M k o ∧ ew_S g M k o t ∧ (C o ↔ C t) := by
  intro t
  induction t using Nat.strongRecOn with
  | ind t ih =>
    intro hM
    by_cases h : ew_O g M k t
    · exact ⟨t, h, ew_Sr, Iff.rfl⟩
    · obtain ⟨t', m, l, l2⟩ := ew_nO hM h
      obtain ⟨o, h1, h3, h4⟩ := ih t' l m
      exact ⟨o, h1, ew_St h3 (ew_lk m (Nat.le_of_lt l) l2), h4.trans (hC t' t m hM (Nat.le_of_lt l) l2)⟩
theorem ew_ex (hM : M k t) : ∃ o, ew_O g M k o ∧ ew_S g M k o t := by
  obtain ⟨o, h1, h3, _⟩ := ew_dn (g := g) (fun _ => True) (fun _ _ _ _ _ _ => Iff.rfl) t hM
  exact ⟨o, h1, h3⟩
theorem ew_cls (C : Nat → Prop) (hC : ∀ a b, M k a → M k b → a ≤ b → b < a + g → (C a ↔ C b)) (ha : M k a) (hb : M k b) (s : ew_S g M k a b) : C a ↔ C b := by
  obtain ⟨o, h1, h3, h4⟩ := ew_dn C hC a ha
  obtain ⟨o', h1', h3', h4'⟩ := ew_dn C hC b hb
  have e : o = o' := ew_O1 h1 h1' (ew_St h3 (ew_St s (ew_Ss h3')))
  subst e
  exact h4.symm.trans h4'
theorem ew_mono1 (sub : ∀ t, M k t → M' k t) (hb : M k b) (s : ew_S g M k a b) (ho : ew_O g M' k o) (h : o ≤ b) : o ≤ a := by
  obtain ⟨y, ⟨m, l⟩, mn⟩ := pk_least (fun y => M k y ∧ o ≤ y) ⟨b, hb, h⟩
  refine Classical.byContradiction fun c => ?_
  have hyb : y ≤ b := Nat.not_lt.mp fun q => mn b q ⟨hb, h⟩
  have hn : ¬ ew_O g M k y := fun q => c (Nat.le_trans l ((s y q).mpr hyb))
  obtain ⟨z, mz, l1, l2⟩ := ew_nO m hn
  have hz : z < o := Nat.not_le.mp fun q => mn z l1 ⟨mz, q⟩
  have := ho.2 z (sub z mz) hz
  omega
/-- more events: what was one session stays one -/
theorem ew_mono (sub : ∀ t, M k t → M' k t) (ha : M k a) (hb : M k b) (s : ew_S g M k a b) : ew_S g M' k a b :=
  fun _ ho => ⟨ew_mono1 sub ha (ew_Ss s) ho, ew_mono1 sub hb s ho⟩
theorem ew_restr (cl : ∀ t t', M' k t → M k t' → t' < t → t < t' + g → M' k t') (sub : ∀ t, M' k t → M k t) (ho : ew_O g M' k o) : ew_O g M k o := by
  refine ⟨sub o ho.1, fun t' m l => Nat.not_lt.mp fun q => ?_⟩
  have := ho.2 t' (cl o t' ho.1 m l q) l
  omega
/-- whole sessions taken away: what was one session stays one -/
theorem ew_restrS (cl : ∀ t t', M' k t → M k t' → t' < t → t < t' + g → M' k t') (sub : ∀ t, M' k t → M k t) (s : ew_S g M k a b) : ew_S g M' k a b :=
  fun o ho => s o (ew_restr cl sub ho)
end
section
/-- key, time, value -/
abbrev ew_E : Type := Nat × Nat × Int32
/-- key, start, end, value -/
abbrev ew_P : Type := Nat × Nat × Nat × Int32
def ew_M (E : List ew_E) (k t : Nat) : Prop := ∃ v, (k, t, v) ∈ E
theorem ew_Mp {E E' : List ew_E} (h : E.Perm E') : ew_M E = ew_M E' :=
  funext fun k => funext fun t => propext ⟨fun ⟨v, m⟩ => ⟨v, h.mem_iff.mp m⟩, fun ⟨v, m⟩ => ⟨v, h.mem_iff.mpr m⟩⟩
noncomputable def ew_cl (g : Nat) (E : List ew_E) (k s : Nat) (x : ew_E) : Bool := ew_dc (x.1 = k ∧ ew_S g (ew_M E) k s x.2.1)
def ew_sm (l : List ew_E) : Int32 := l.foldr (fun x s => x.2.2 + s) 0
def ew_mx : List ew_E → Nat
  | [] => 0
  | x :: l => if ew_mx l ≤ x.2.1 then x.2.1 else ew_mx l
theorem ew_sm_p {l l' : List ew_E} (h : l.Perm l') : ew_sm l = ew_sm l' :=
  h.foldr_eq' (fun x _ y _ z => by
    show y.2.2 + (x.2.2 + z) = x.2.2 + (y.2.2 + z)
    rw [← Int32.add_assoc, ← Int32.add_assoc, Int32.add_comm y.2.2 x.2.2]) 0
theorem ew_sm_a (l l' : List ew_E) : ew_sm (l ++ l') = ew_sm l + ew_sm l' := by
  induction l with
  | nil => exact (Int32.zero_add _).symm
  | cons x l ih =>
    show x.2.2 + ew_sm (l ++ l') = x.2.2 + ew_sm l + ew_sm l'
    rw [ih, Int32.add_assoc]
theorem ew_mx_le : ∀ (l : List ew_E) (x : ew_E), x ∈ l → x.2.1 ≤ ew_mx l := by
  intro l
  induction l with
  | nil => intro x h; exact absurd h List.not_mem_nil
  | cons y l ih =>
    intro x h
    rw [ew_mx]
    rcases List.mem_cons.mp h with h | h
    · subst h
      split <;> omega
    · have := ih x h
      split <;> omega
theorem ew_mx_mem : ∀ (l : List ew_E), l ≠ [] → ∃ x, x ∈ l ∧ ew_mx l = x.2.1 := by
  intro l
  induction l with
  | nil => intro h; exact absurd rfl h
  | cons y l ih =>
    intro _
    rw [ew_mx]
    by_cases c : ew_mx l ≤ y.2.1
    · exact ⟨y, List.mem_cons_self, by rw [if_pos c]⟩
    · by_cases d : l = []
      · subst d
        exact absurd (Nat.zero_le _) c
      · obtain ⟨x, hx, he⟩ := ih d
        exact ⟨x, List.mem_cons_of_mem _ hx, by rw [if_neg c, he]⟩
theorem ew_mx_eq {l : List ew_E} {x : ew_E} (hx : x ∈ l) (h : ∀ y, y ∈ l → y.2.1 ≤ x.2.1) : ew_mx l = x.2.1 := by
  obtain ⟨y, hy, e⟩ := ew_mx_mem l (List.ne_nil_of_mem hx)
  have h1 := ew_mx_le l x hx
  have h2 := h y hy
  omega
theorem ew_mx_p {l l' : List ew_E} (h : l.Perm l') : ew_mx l = ew_mx l' := by
  by_cases c : l = []
  · subst c
    rw [List.nil_perm.mp h]
  · obtain ⟨x, hx, e⟩ := ew_mx_mem l c
    rw [e]
    exact (ew_mx_eq (h.mem_iff.mp hx) (fun y hy => e ▸ ew_mx_le l y (h.mem_iff.mpr hy))).symm
noncomputable def ew_ss (g : Nat) (E : List ew_E) (ks : Nat × Nat) : ew_P :=
  (ks.1, ks.2, ew_mx (E.filter (ew_cl g E ks.1 ks.2)) + g, ew_sm (E.filter (ew_cl g E ks.1 ks.2)))
noncomputable def ew_sc (g : Nat) (E : List ew_E) (ks : Nat × Nat) : Nat := (E.filter (ew_cl g E ks.1 ks.2)).length
theorem ew_cl_p {g : Nat} {E E' : List ew_E} (h : E.Perm E') : ew_cl g E = ew_cl g E' := by
  funext k s x
  unfold ew_cl
  rw [ew_Mp h]
theorem ew_ss_p {g : Nat} {E E' : List ew_E} (h : E.Perm E') : ew_ss g E = ew_ss g E' := by
  funext ks
  unfold ew_ss
  rw [ew_cl_p h, ew_mx_p (h.filter (ew_cl g E' ks.1 ks.2)), ew_sm_p (h.filter (ew_cl g E' ks.1 ks.2))]
theorem ew_sc_p {g : Nat} {E E' : List ew_E} (h : E.Perm E') : ew_sc g E = ew_sc g E' := by
  funext ks
  unfold ew_sc
  rw [ew_cl_p h, (h.filter (ew_cl g E' ks.1 ks.2)).length_eq]
theorem ew_cl_S {g k s t : Nat} {E : List ew_E} (h : ew_S g (ew_M E) k s t) : ew_cl g E k s = ew_cl g E k t := by
  funext x
  exact ew_dcC ⟨fun z => ⟨z.1, ew_St (ew_Ss h) z.2⟩, fun z => ⟨z.1, ew_St h z.2⟩⟩
def ew_L {α : Type} (e : Nat → α) (n : Nat) : List α := (List.range n).map e
theorem ew_Ls {α : Type} (e : Nat → α) (n : Nat) : ew_L e (n + 1) = ew_L e n ++ [e n] := by
  unfold ew_L
  rw [List.range_succ, List.map_append]
  rfl
theorem ew_Lm {α : Type} {e : Nat → α} {n : Nat} {x : α} : x ∈ ew_L e n ↔ ∃ i, i < n ∧ e i = x := by
  unfold ew_L
  rw [List.mem_map]
  exact ⟨fun ⟨i, h, h'⟩ => ⟨i, List.mem_range.mp h, h'⟩, fun ⟨i, h, h'⟩ => ⟨i, List.mem_range.mpr h, h'⟩⟩
theorem ew_Lc {α : Type} {e e' : Nat → α} {n : Nat} (h : ∀ i, i < n → e i = e' i) : ew_L e n = ew_L e' n :=
  List.map_congr_left (fun i hi => h i (List.mem_range.mp hi))
theorem ew_Ll {α : Type} (e : Nat → α) (n : Nat) : (ew_L e n).length = n := by
  unfold ew_L
  rw [List.length_map, List.length_range]
theorem ew_Lg {α : Type} {e : Nat → α} {n i : Nat} (h : i < n) : (ew_L e n)[i]? = some (e i) := by
  unfold ew_L
  rw [List.getElem?_map, List.getElem?_range h]
  rfl
/-- a list of n is such a sequence -/
theorem ew_Lx {α : Type} [Inhabited α] (l : List α) : ew_L (fun i => l.getD i default) l.length = l := by
  apply List.ext_getElem?
  intro i
  by_cases h : i < l.length
  · rw [ew_Lg h, List.getElem?_eq_getElem h, List.getD_eq_getElem?_getD, List.getElem?_eq_getElem h]
    rfl
  · rw [List.getElem?_eq_none (by rw [ew_Ll]; omega), List.getElem?_eq_none (by omega)]
end
end
section
/-! sorted positions: blocks, sums, counts -/
section
variable {g n i j q : Nat} {e : Nat → ew_E}
theorem ew_ML {k t : Nat} : ew_M (ew_L e n) k t ↔ ∃ i, i < n ∧ (e i).1 = k ∧ (e i).2.1 = t := by
  constructor
  · rintro ⟨v, m⟩
    obtain ⟨i, hi, h⟩ := ew_Lm.mp m
    exact ⟨i, hi, by rw [h], by rw [h]⟩
  · rintro ⟨i, hi, h1, h2⟩
    subst h1 h2
    exact ⟨(e i).2.2, ew_Lm.mpr ⟨i, hi, rfl⟩⟩
theorem ew_iM (h : i < n) : ew_M (ew_L e n) (e i).1 (e i).2.1 := ew_ML.mpr ⟨i, h, rfl, rfl⟩
def ew_srt (e : Nat → ew_E) (n : Nat) : Prop := ∀ i j, i ≤ j → j < n → (e i).1 < (e j).1 ∨ ((e i).1 = (e j).1 ∧ (e i).2.1 ≤ (e j).2.1)
def ew_op (g : Nat) (e : Nat → ew_E) (i : Nat) : Prop := i = 0 ∨ (e i).1 ≠ (e (i - 1)).1 ∨ (e (i - 1)).2.1 + g ≤ (e i).2.1
def ew_blk (g : Nat) (e : Nat → ew_E) (n i q : Nat) : Prop := i < q ∧ q ≤ n ∧ (∀ j, i < j → j < q → ¬ ew_op g e j) ∧ (q < n → ew_op g e q)
theorem ew_opO (hs : ew_srt e n) (hi : i < n) (ho : ew_op g e i) : ew_O g (ew_M (ew_L e n)) (e i).1 (e i).2.1 := by
  refine ⟨ew_iM hi, fun t' m l => ?_⟩
  obtain ⟨j, hj, h1, h2⟩ := ew_ML.mp m
  subst h2
  have hji : j < i := Nat.not_le.mp fun q => by
    have := hs i j q hj
    omega
  have h3 := hs j (i - 1) (by omega) (by omega)
  have h4 := hs (i - 1) i (by omega) hi
  unfold ew_op at ho
  omega
theorem ew_bf (hs : ew_srt e n) (hb : ew_blk g e n i q) : ∀ j, i ≤ j → j < q → (e j).1 = (e i).1 ∧ ew_S g (ew_M (ew_L e n)) (e i).1 (e i).2.1 (e j).2.1 := by
  intro j
  induction j with
  | zero =>
    intro h _
    have : i = 0 := by omega
    subst this
    exact ⟨rfl, ew_Sr⟩
  | succ j ih =>
    intro h1 h2
    by_cases c : i = j + 1
    · subst c
      exact ⟨rfl, ew_Sr⟩
    · obtain ⟨a, b⟩ := ih (by omega) (by omega)
      have hq := hb.2.1
      have hn := hb.2.2.1 (j + 1) (by omega) h2
      have h3 := hs j (j + 1) (by omega) (by omega)
      have hn' : (e (j + 1)).1 = (e j).1 ∧ (e (j + 1)).2.1 < (e j).2.1 + g := by
        unfold ew_op at hn
        rw [Nat.add_sub_cancel] at hn
        omega
      refine ⟨hn'.1.trans a, ew_St b ?_⟩
      have m : ew_M (ew_L e n) (e j).1 (e j).2.1 := ew_iM (by omega)
      rw [a] at m
      exact ew_lk m (by omega) hn'.2
theorem ew_bb (hs : ew_srt e n) (hg : 0 < g) (ho : ew_op g e i) (hb : ew_blk g e n i q) (hj : j < n) (hk : (e j).1 = (e i).1) (s : ew_S g (ew_M (ew_L e n)) (e i).1 (e i).2.1 (e j).2.1) : i ≤ j ∧ j < q := by
  have hiq := hb.1
  have hqn := hb.2.1
  have hi : i < n := by omega
  have O := ew_opO hs hi ho
  have h0 := (s _ O).mp (Nat.le_refl _)
  constructor
  · refine Nat.not_lt.mp fun c => ?_
    have h3 := hs j (i - 1) (by omega) (by omega)
    have h4 := hs (i - 1) i (by omega) hi
    unfold ew_op at ho
    omega
  · refine Nat.not_le.mp fun c => ?_
    have hq : q < n := by omega
    have oq := hb.2.2.2 hq
    have h5 := hs i q (by omega) hq
    have h6 := hs q j c hj
    have kq : (e q).1 = (e i).1 := by omega
    have O2 := ew_opO hs hq oq
    rw [kq] at O2
    have h7 := (s _ O2).mpr (by omega)
    have h8 := hs i (q - 1) (by omega) (by omega)
    have h9 := hs (q - 1) q (by omega) hq
    unfold ew_op at oq
    omega
theorem ew_bx (hi : i < n) : ∃ q, ew_blk g e n i q := by
  obtain ⟨q, ⟨h1, h2⟩, mn⟩ := pk_least (fun q => i < q ∧ (q = n ∨ ew_op g e q)) ⟨n, hi, Or.inl rfl⟩
  have hq : q ≤ n := Nat.not_lt.mp fun c => mn n c ⟨hi, Or.inl rfl⟩
  refine ⟨q, h1, hq, fun j l1 l2 o => mn j l2 ⟨l1, Or.inr o⟩, fun c => ?_⟩
  rcases h2 with h2 | h2
  · omega
  · exact h2
def ew_su (p : Nat → Bool) (v : Nat → Int32) : Nat → Int32
  | 0 => 0
  | m + 1 => if p m = true then ew_su p v m + v m else ew_su p v m
def ew_ct (p : Nat → Bool) : Nat → Nat
  | 0 => 0
  | m + 1 => if p m = true then ew_ct p m + 1 else ew_ct p m
theorem ew_su_L (e : Nat → ew_E) (P : ew_E → Bool) : ∀ m, ew_sm ((ew_L e m).filter P) = ew_su (fun i => P (e i)) (fun i => (e i).2.2) m := by
  intro m
  induction m with
  | zero => rfl
  | succ m ih =>
    rw [ew_Ls, List.filter_append, ew_sm_a, ih, ew_su]
    by_cases h : P (e m) = true
    · rw [if_pos h, List.filter_cons_of_pos h]
      show _ + ((e m).2.2 + 0) = _
      rw [Int32.add_zero]
    · rw [if_neg h, List.filter_cons_of_neg h]
      show _ + (0 : Int32) = _
      rw [Int32.add_zero]
theorem ew_ct_L {α : Type} (e : Nat → α) (P : α → Bool) : ∀ m, ((ew_L e m).filter P).length = ew_ct (fun i => P (e i)) m := by
  intro m
  induction m with
  | zero => rfl
  | succ m ih =>
    rw [ew_Ls, List.filter_append, List.length_append, ih, ew_ct]
    by_cases h : P (e m) = true
    · rw [if_pos h, List.filter_cons_of_pos h]
      rfl
    · rw [if_neg h, List.filter_cons_of_neg h]
      rfl
theorem ew_su_c {p p' : Nat → Bool} {v v' : Nat → Int32} {m : Nat} (h : ∀ i, i < m → p i = p' i ∧ v i = v' i) : ew_su p v m = ew_su p' v' m := by
  induction m with
  | zero => rfl
  | succ m ih =>
    rw [ew_su, ew_su, ih (fun i hi => h i (by omega)), (h m (by omega)).1, (h m (by omega)).2]
theorem ew_ct_c {p p' : Nat → Bool} {m : Nat} (h : ∀ i, i < m → p i = p' i) : ew_ct p m = ew_ct p' m := by
  induction m with
  | zero => rfl
  | succ m ih =>
    rw [ew_ct, ew_ct, ih (fun i hi => h i (by omega)), h m (by omega)]
theorem ew_ct_le (p : Nat → Bool) : ∀ m, ew_ct p m ≤ m := by
  intro m
  induction m with
  | zero => exact Nat.le_refl 0
  | succ m ih =>
    rw [ew_ct]
    split <;> omega
theorem ew_ct_mono {p p' : Nat → Bool} {m : Nat} (h : ∀ i, i < m → p i = true → p' i = true) : ew_ct p m ≤ ew_ct p' m := by
  induction m with
  | zero => exact Nat.le_refl 0
  | succ m ih =>
    have := ih (fun i hi => h i (by omega))
    have h2 := h m (by omega)
    rw [ew_ct, ew_ct]
    by_cases c : p m = true
    · rw [if_pos c, if_pos (h2 c)]
      omega
    · rw [if_neg c]
      split <;> omega
theorem ew_ct_lt {p p' : Nat → Bool} {m x : Nat} (h : ∀ i, i < m → p i = true → p' i = true) (hx : x < m) (hp : ¬ p x = true) (hp' : p' x = true) : ew_ct p m < ew_ct p' m := by
  induction m with
  | zero => omega
  | succ m ih =>
    rw [ew_ct, ew_ct]
    by_cases c : x = m
    · subst c
      have := ew_ct_mono (fun i hi => h i (Nat.lt_succ_of_lt hi))
      rw [if_neg hp, if_pos hp']
      omega
    · have := ih (fun i hi => h i (by omega)) (by omega)
      have h2 := h m (by omega)
      by_cases d : p m = true
      · rw [if_pos d, if_pos (h2 d)]
        omega
      · rw [if_neg d]
        split <;> omega
theorem ew_ct_r (p : Nat → Bool) : ∀ m, ew_ct p m = (List.range m).countP p := by
  intro m
  induction m with
  | zero => rfl
  | succ m ih =>
    rw [ew_ct, List.range_succ, List.countP_append, ih]
    by_cases h : p m = true
    · rw [if_pos h, List.countP_cons_of_pos h]
      rfl
    · rw [if_neg h, List.countP_cons_of_neg h]
      rfl
/-- the positions of a block -/
noncomputable def ew_in (i q : Nat) (j : Nat) : Bool := ew_dc (i ≤ j ∧ j < q)
theorem ew_inI : ew_in i q j = true ↔ i ≤ j ∧ j < q := ew_dcI
theorem ew_su_0 (v : Nat → Int32) (m : Nat) (h : m ≤ i) : ew_su (ew_in i q) v m = 0 := by
  induction m with
  | zero => rfl
  | succ m ih =>
    have hn : ¬ ew_in i q m = true := fun z => by
      have := ew_inI.mp z
      omega
    rw [ew_su, if_neg hn, ih (by omega)]
theorem ew_su_1 (v : Nat → Int32) (d : Nat) : ew_su (ew_in i q) v (q + d) = ew_su (ew_in i q) v q := by
  induction d with
  | zero => rfl
  | succ d ih =>
    have hn : ¬ ew_in i q (q + d) = true := fun z => by
      have := ew_inI.mp z
      omega
    rw [← Nat.add_assoc, ew_su, if_neg hn, ih]
theorem ew_ct_b (m : Nat) : ew_ct (ew_in i q) m = (if m ≤ q then m else q) - i := by
  induction m with
  | zero =>
    show 0 = _
    rw [if_pos (Nat.zero_le _), Nat.zero_sub]
  | succ m ih =>
    rw [ew_ct, ih]
    by_cases h : i ≤ m ∧ m < q
    · rw [if_pos (ew_inI.mpr h), if_pos (show m ≤ q by omega), if_pos (show m + 1 ≤ q by omega)]
      omega
    · rw [if_neg (fun z => h (ew_inI.mp z))]
      by_cases c : m + 1 ≤ q
      · rw [if_pos (show m ≤ q by omega), if_pos c]
        omega
      · rw [if_neg c]
        split <;> omega
theorem ew_clX (hs : ew_srt e n) (hg : 0 < g) (ho : ew_op g e i) (hb : ew_blk g e n i q) (hj : j < n) : ew_cl g (ew_L e n) (e i).1 (e i).2.1 (e j) = ew_in i q j :=
  ew_dcC ⟨fun z => ew_bb hs hg ho hb hj z.1 z.2, fun z => ew_bf hs hb j z.1 z.2⟩
/-- the session that opens at position i, as its block shows it -/
theorem ew_sX (hs : ew_srt e n) (hg : 0 < g) (ho : ew_op g e i) (hb : ew_blk g e n i q) :
    ew_ss g (ew_L e n) ((e i).1, (e i).2.1) = ((e i).1, (e i).2.1, (e (q - 1)).2.1 + g, ew_su (ew_in i q) (fun j => (e j).2.2) q) ∧ ew_sc g (ew_L e n) ((e i).1, (e i).2.1) = q - i := by
  have hiq := hb.1
  have hqn := hb.2.1
  have h1 : ew_mx ((ew_L e n).filter (ew_cl g (ew_L e n) (e i).1 (e i).2.1)) = (e (q - 1)).2.1 := by
    apply ew_mx_eq
    · refine List.mem_filter.mpr ⟨ew_Lm.mpr ⟨q - 1, by omega, rfl⟩, ?_⟩
      rw [ew_clX hs hg ho hb (by omega)]
      exact ew_inI.mpr ⟨by omega, by omega⟩
    · intro y hy
      obtain ⟨hy1, hy2⟩ := List.mem_filter.mp hy
      obtain ⟨j, hj, rfl⟩ := ew_Lm.mp hy1
      rw [ew_clX hs hg ho hb hj] at hy2
      have hy3 := ew_inI.mp hy2
      have k1 := (ew_bf hs hb j hy3.1 hy3.2).1
      have k2 := (ew_bf hs hb (q - 1) (by omega) (by omega)).1
      have := hs j (q - 1) (by omega) (by omega)
      omega
  have h2 : ew_sm ((ew_L e n).filter (ew_cl g (ew_L e n) (e i).1 (e i).2.1)) = ew_su (ew_in i q) (fun j => (e j).2.2) q := by
    rw [ew_su_L, ew_su_c (p' := ew_in i q) (v' := fun j => (e j).2.2) (fun j hj => ⟨ew_clX hs hg ho hb hj, rfl⟩)]
    have := ew_su_1 (i := i) (q := q) (fun j => (e j).2.2) (n - q)
    rw [show q + (n - q) = n by omega] at this
    exact this
  constructor
  · unfold ew_ss
    dsimp only
    rw [h1, h2]
  · unfold ew_sc
    dsimp only
    rw [ew_ct_L, ew_ct_c (p' := ew_in i q) (fun j hj => ew_clX hs hg ho hb hj), ew_ct_b]
    split <;> omega
end
end
section
/-! the order of sessions and of panes: rank is position; labels -/
section
variable {g n i j q r : Nat} {e : Nat → ew_E}
def ew_lt (a b : Nat × Nat) : Prop := a.1 < b.1 ∨ (a.1 = b.1 ∧ a.2 < b.2)
theorem ew_lt_as {a b : Nat × Nat} (h : ew_lt a b) : ¬ ew_lt b a := by
  unfold ew_lt at *
  omega
theorem ew_rk {α : Type} (f : α → α → Prop) (as : ∀ a b, f a b → ¬ f b a) : ∀ (l : List α), l.Pairwise f → ∀ (i : Nat) (x : α), l[i]? = some x → l.countP (fun y => ew_dc (f y x)) = i := by
  intro l
  induction l with
  | nil => intro _ i x h; rw [List.getElem?_nil] at h; cases h
  | cons a l ih =>
    intro hp i x h
    obtain ⟨h1, h2⟩ := List.pairwise_cons.mp hp
    cases i with
    | zero =>
      rw [List.getElem?_cons_zero] at h
      cases h
      apply List.countP_eq_zero.mpr
      intro y hy z
      have z' := ew_dcI.mp z
      rcases List.mem_cons.mp hy with c | c
      · subst c
        exact as y y z' z'
      · exact as _ _ (h1 y c) z'
    | succ i =>
      rw [List.getElem?_cons_succ] at h
      rw [List.countP_cons_of_pos (p := fun y => ew_dc (f y x)) (ew_dcI.mpr (h1 x (List.mem_of_getElem? h))), ih h2 i x h]
/-- key and start of the sessions in order, as the sorted sequence shows them, those that open below n -/
noncomputable def ew_xl (g : Nat) (e : Nat → ew_E) (n : Nat) : List (Nat × Nat) :=
  ((List.range n).filter (fun i => ew_dc (ew_op g e i))).map (fun i => ((e i).1, (e i).2.1))
theorem ew_xl_s (n : Nat) : ew_xl g e (n + 1) = if ew_dc (ew_op g e n) = true then ew_xl g e n ++ [((e n).1, (e n).2.1)] else ew_xl g e n := by
  unfold ew_xl
  rw [List.range_succ, List.filter_append]
  by_cases h : ew_dc (ew_op g e n) = true
  · rw [if_pos h, List.filter_cons_of_pos (p := fun i => ew_dc (ew_op g e i)) h, List.map_append]
    rfl
  · rw [if_neg h, List.filter_cons_of_neg (p := fun i => ew_dc (ew_op g e i)) h, List.map_append]
    exact List.append_nil _
theorem ew_xl_y (h : ew_op g e n) : ew_xl g e (n + 1) = ew_xl g e n ++ [((e n).1, (e n).2.1)] := by
  rw [ew_xl_s, if_pos (ew_dcI.mpr h)]
theorem ew_xl_n (h : ¬ ew_op g e n) : ew_xl g e (n + 1) = ew_xl g e n := by
  rw [ew_xl_s, if_neg (fun z => h (ew_dcI.mp z))]
theorem ew_xl_l (n : Nat) : (ew_xl g e n).length = ew_ct (fun i => ew_dc (ew_op g e i)) n := by
  unfold ew_xl
  rw [List.length_map, ew_ct_r, List.countP_eq_length_filter]
theorem ew_xl_g (h : ew_op g e i) : ∀ d, (ew_xl g e (i + 1 + d))[(ew_xl g e i).length]? = some ((e i).1, (e i).2.1) := by
  intro d
  induction d with
  | zero =>
    rw [Nat.add_zero, ew_xl_y h, List.getElem?_append_right (Nat.le_refl _), Nat.sub_self]
    rfl
  | succ d ih =>
    rw [← Nat.add_assoc, ew_xl_s]
    split
    · rw [List.getElem?_append_left, ih]
      exact (List.getElem?_eq_some_iff.mp ih).1
    · exact ih
theorem ew_xl_p (hs : ew_srt e n) (hg : 0 < g) : (ew_xl g e n).Pairwise ew_lt := by
  unfold ew_xl
  refine List.pairwise_map.mpr ?_
  refine List.Pairwise.imp_of_mem ?_ (List.Pairwise.filter _ List.pairwise_lt_range)
  intro a b ha hb hab
  have ha2 := List.mem_range.mp (List.mem_filter.mp ha).1
  have hb2 := List.mem_range.mp (List.mem_filter.mp hb).1
  have hb3 := ew_dcI.mp (List.mem_filter.mp hb).2
  have h1 := hs a (b - 1) (by omega) (by omega)
  have h2 := hs (b - 1) b (by omega) hb2
  unfold ew_op at hb3
  unfold ew_lt
  dsimp only
  omega
theorem ew_xl_m (hs : ew_srt e n) (hg : 0 < g) {ks : Nat × Nat} : ks ∈ ew_xl g e n ↔ ew_O g (ew_M (ew_L e n)) ks.1 ks.2 := by
  unfold ew_xl
  rw [List.mem_map]
  constructor
  · rintro ⟨i, hi, rfl⟩
    obtain ⟨h1, h2⟩ := List.mem_filter.mp hi
    exact ew_opO hs (List.mem_range.mp h1) (ew_dcI.mp h2)
  · intro h
    obtain ⟨i, ⟨hi, h1, h2⟩, mn⟩ := pk_least (fun i => i < n ∧ (e i).1 = ks.1 ∧ (e i).2.1 = ks.2) (ew_ML.mp h.1)
    refine ⟨i, List.mem_filter.mpr ⟨List.mem_range.mpr hi, ew_dcI.mpr ?_⟩, by show ((e i).1, (e i).2.1) = ks; rw [h1, h2]⟩
    refine Classical.byContradiction fun c => ?_
    unfold ew_op at c
    have h3 := hs (i - 1) i (by omega) hi
    have h4 := mn (i - 1) (by omega)
    have m : ew_M (ew_L e n) (e (i - 1)).1 (e (i - 1)).2.1 := ew_iM (by omega)
    have hk : (e (i - 1)).1 = ks.1 := by omega
    rw [hk] at m
    by_cases d : (e (i - 1)).2.1 < ks.2
    · have := h.2 _ m d
      omega
    · exact h4 ⟨by omega, hk, by omega⟩
/-- the start of the session of key k that time t is in -/
noncomputable def ew_st (g : Nat) (M : Nat → Nat → Prop) (k t : Nat) : Nat := @dite Nat (∃ o, ew_O g M k o ∧ ew_S g M k o t) (Classical.propDecidable _) (fun h => Classical.choose h) (fun _ => 0)
theorem ew_st_s {M : Nat → Nat → Prop} {k t : Nat} (h : M k t) : ew_O g M k (ew_st g M k t) ∧ ew_S g M k (ew_st g M k t) t := by
  have hx : ∃ o, ew_O g M k o ∧ ew_S g M k o t := ew_ex h
  unfold ew_st
  rw [dif_pos hx]
  exact Classical.choose_spec hx
theorem ew_st_e {M : Nat → Nat → Prop} {k t o : Nat} (h : M k t) (ho : ew_O g M k o) (s : ew_S g M k o t) : ew_st g M k t = o :=
  ew_O1 (ew_st_s h).1 ho (ew_St (ew_st_s h).2 (ew_Ss s))
theorem ew_st_S {M : Nat → Nat → Prop} {k t t' : Nat} (h : M k t) (h' : M k t') (s : ew_S g M k t t') : ew_st g M k t = ew_st g M k t' :=
  ew_st_e h (ew_st_s h').1 (ew_St (ew_st_s h').2 (ew_Ss s))
/-- positions i and j hold events of one session -/
def ew_si (g : Nat) (e : Nat → ew_E) (n i j : Nat) : Prop := (e j).1 = (e i).1 ∧ ew_S g (ew_M (ew_L e n)) (e i).1 (e i).2.1 (e j).2.1
theorem ew_si_r : ew_si g e n i i := ⟨rfl, ew_Sr⟩
theorem ew_si_s (h : ew_si g e n i j) : ew_si g e n j i := ⟨h.1.symm, by rw [h.1]; exact ew_Ss h.2⟩
theorem ew_si_t (h : ew_si g e n i j) (h' : ew_si g e n j q) : ew_si g e n i q := ⟨h'.1.trans h.1, ew_St h.2 (by rw [← h.1]; exact h'.2)⟩
/-- lb i is the least position of i's session -/
def ew_lab (g : Nat) (e : Nat → ew_E) (n : Nat) (lb : Nat → Nat) : Prop := ∀ i, i < n → lb i < n ∧ ew_si g e n i (lb i) ∧ ∀ j, j < n → ew_si g e n i j → lb i ≤ j
variable {lb : Nat → Nat}
theorem ew_lab_e (h : ew_lab g e n lb) (hi : i < n) (hj : j < n) (s : ew_si g e n i j) : lb i = lb j := by
  obtain ⟨a1, a2, a3⟩ := h i hi
  obtain ⟨b1, b2, b3⟩ := h j hj
  have := a3 (lb j) b1 (ew_si_t s b2)
  have := b3 (lb i) a1 (ew_si_t (ew_si_s s) a2)
  omega
theorem ew_lab_i (h : ew_lab g e n lb) (hi : i < n) : lb (lb i) = lb i :=
  (ew_lab_e h hi (h i hi).1 (h i hi).2.1).symm
theorem ew_lab_c (h : ew_lab g e n lb) (hr : r < n) (hrr : lb r = r) (hj : j < n) : lb j = r ↔ ew_si g e n r j := by
  constructor
  · intro c
    have := (h j hj).2.1
    rw [c] at this
    exact ew_si_s this
  · intro s
    rw [← ew_lab_e h hr hj s, hrr]
/-- key and start of the session of position i -/
noncomputable def ew_ks (g : Nat) (e : Nat → ew_E) (n i : Nat) : Nat × Nat := ((e i).1, ew_st g (ew_M (ew_L e n)) (e i).1 (e i).2.1)
theorem ew_ks_O (hi : i < n) : ew_O g (ew_M (ew_L e n)) (ew_ks g e n i).1 (ew_ks g e n i).2 := (ew_st_s (ew_iM hi)).1
theorem ew_ks_S (hi : i < n) : ew_S g (ew_M (ew_L e n)) (e i).1 (ew_ks g e n i).2 (e i).2.1 := (ew_st_s (ew_iM hi)).2
theorem ew_ks_i (hi : i < n) (hj : j < n) : ew_ks g e n i = ew_ks g e n j ↔ ew_si g e n i j := by
  constructor
  · intro h
    have h1 : (e i).1 = (e j).1 := show (ew_ks g e n i).1 = (ew_ks g e n j).1 from congrArg Prod.fst h
    have h2 : ew_st g (ew_M (ew_L e n)) (e i).1 (e i).2.1 = ew_st g (ew_M (ew_L e n)) (e j).1 (e j).2.1 := show (ew_ks g e n i).2 = (ew_ks g e n j).2 from congrArg Prod.snd h
    have a := (ew_st_s (g := g) (ew_iM (e := e) hi)).2
    have b := (ew_st_s (g := g) (ew_iM (e := e) hj)).2
    rw [← h2, ← h1] at b
    exact ⟨h1.symm, ew_St (ew_Ss a) b⟩
  · intro s
    have m : ew_M (ew_L e n) (e j).1 (e j).2.1 := ew_iM hj
    have e2 : ew_st g (ew_M (ew_L e n)) (e i).1 (e i).2.1 = ew_st g (ew_M (ew_L e n)) (e i).1 (e j).2.1 := by
      rw [s.1] at m
      exact ew_st_S (ew_iM hi) m s.2
    unfold ew_ks
    rw [e2, s.1]
theorem ew_clY (h : ew_lab g e n lb) (hr : r < n) (hrr : lb r = r) (hj : j < n) : ew_cl g (ew_L e n) (ew_ks g e n r).1 (ew_ks g e n r).2 (e j) = ew_dc (lb j = r) := by
  have h1 : ew_cl g (ew_L e n) (ew_ks g e n r).1 (ew_ks g e n r).2 = ew_cl g (ew_L e n) (e r).1 (e r).2.1 := ew_cl_S (ew_ks_S hr)
  rw [h1]
  exact ew_dcC (ew_lab_c h hr hrr hj).symm
/-- the representatives' sessions, in the order of positions -/
noncomputable def ew_yl (g : Nat) (e : Nat → ew_E) (n : Nat) (lb : Nat → Nat) : List (Nat × Nat) :=
  ((List.range n).filter (fun i => ew_dc (lb i = i))).map (ew_ks g e n)
theorem ew_yl_m (h : ew_lab g e n lb) {ks : Nat × Nat} : ks ∈ ew_yl g e n lb ↔ ew_O g (ew_M (ew_L e n)) ks.1 ks.2 := by
  unfold ew_yl
  rw [List.mem_map]
  constructor
  · rintro ⟨i, hi, rfl⟩
    exact ew_ks_O (List.mem_range.mp (List.mem_filter.mp hi).1)
  · intro ho
    obtain ⟨i, hi, h1, h2⟩ := ew_ML.mp ho.1
    refine ⟨lb i, List.mem_filter.mpr ⟨List.mem_range.mpr (h i hi).1, ew_dcI.mpr (ew_lab_i h hi)⟩, ?_⟩
    rw [← (ew_ks_i hi (h i hi).1).mpr (h i hi).2.1]
    unfold ew_ks
    rw [h1, h2, ew_st_e ho.1 ho ew_Sr]
theorem ew_yl_n (h : ew_lab g e n lb) : (ew_yl g e n lb).Nodup := by
  unfold ew_yl
  refine List.pairwise_map.mpr ?_
  refine List.Pairwise.imp_of_mem ?_ (List.Pairwise.filter _ List.pairwise_lt_range)
  intro a b ha hb hab c
  have ha2 := List.mem_range.mp (List.mem_filter.mp ha).1
  have hb2 := List.mem_range.mp (List.mem_filter.mp hb).1
  have ha3 := ew_dcI.mp (List.mem_filter.mp ha).2
  have hb3 := ew_dcI.mp (List.mem_filter.mp hb).2
  have := ew_lab_e h ha2 hb2 ((ew_ks_i ha2 hb2).mp c)
  omega
theorem ew_xl_n' (hs : ew_srt e n) (hg : 0 < g) : (ew_xl g e n).Nodup := by
  refine List.Pairwise.imp ?_ (ew_xl_p hs hg)
  intro a b h c
  subst c
  exact ew_lt_as h h
/-- the two lists of sessions are one, but for the order; f is X's sequence, e is Y's -/
theorem ew_xy {f : Nat → ew_E} (hp : (ew_L f n).Perm (ew_L e n)) (hs : ew_srt f n) (hg : 0 < g) (h : ew_lab g e n lb) : (ew_yl g e n lb).Perm (ew_xl g f n) := by
  refine (List.perm_ext_iff_of_nodup (ew_yl_n h) (ew_xl_n' hs hg)).mpr ?_
  intro ks
  rw [ew_yl_m h, ew_xl_m hs hg, ew_Mp hp]
/-- the rank of a representative is the place of its session -/
theorem ew_rank {f : Nat → ew_E} (hp : (ew_L f n).Perm (ew_L e n)) (hs : ew_srt f n) (hg : 0 < g) (h : ew_lab g e n lb) (hr : r < n) (hrr : lb r = r) {x : Nat} (hx : (ew_xl g f n)[x]? = some (ew_ks g e n r)) :
    ew_ct (fun q => ew_dc (lb q = q ∧ ew_lt (ew_ks g e n q) (ew_ks g e n r))) n = x := by
  rw [ew_ct_r, ← ew_rk ew_lt (fun _ _ => ew_lt_as) _ (ew_xl_p hs hg) x _ hx, ← (ew_xy hp hs hg h).countP_eq _]
  unfold ew_yl
  rw [List.countP_map, List.countP_filter]
  apply List.countP_congr
  intro q _
  show ew_dc (lb q = q ∧ ew_lt (ew_ks g e n q) (ew_ks g e n r)) = true ↔ (ew_dc (ew_lt (ew_ks g e n q) (ew_ks g e n r)) && ew_dc (lb q = q)) = true
  rw [ew_dcI, Bool.and_eq_true, ew_dcI, ew_dcI]
  exact And.comm
theorem ew_rankx {f : Nat → ew_E} (hp : (ew_L f n).Perm (ew_L e n)) (hs : ew_srt f n) (hg : 0 < g) (h : ew_lab g e n lb) (hr : r < n) (hrr : lb r = r) {x : Nat}
    (hx : ew_ct (fun q => ew_dc (lb q = q ∧ ew_lt (ew_ks g e n q) (ew_ks g e n r))) n = x) : (ew_xl g f n)[x]? = some (ew_ks g e n r) := by
  have m : ew_ks g e n r ∈ ew_xl g f n := (ew_xl_m hs hg).mpr (by rw [ew_Mp hp]; exact ew_ks_O hr)
  obtain ⟨y, hy⟩ := List.mem_iff_getElem?.mp m
  have := ew_rank hp hs hg h hr hrr hy
  rw [← hx, this]
  exact hy
theorem ew_repx {f : Nat → ew_E} (hp : (ew_L f n).Perm (ew_L e n)) (hs : ew_srt f n) (hg : 0 < g) (h : ew_lab g e n lb) {x : Nat} (hx : x < (ew_xl g f n).length) :
    ∃ r, r < n ∧ lb r = r ∧ ew_ct (fun q => ew_dc (lb q = q ∧ ew_lt (ew_ks g e n q) (ew_ks g e n r))) n = x := by
  have m : (ew_xl g f n)[x] ∈ ew_yl g e n lb := (ew_xy hp hs hg h).mem_iff.mpr (List.getElem_mem hx)
  unfold ew_yl at m
  obtain ⟨r, hr, he⟩ := List.mem_map.mp m
  obtain ⟨h1, h2⟩ := List.mem_filter.mp hr
  refine ⟨r, List.mem_range.mp h1, ew_dcI.mp h2, ew_rank hp hs hg h (List.mem_range.mp h1) (ew_dcI.mp h2) ?_⟩
  rw [he]
  exact List.getElem?_eq_getElem hx
theorem ew_cnt {f : Nat → ew_E} (hp : (ew_L f n).Perm (ew_L e n)) (hs : ew_srt f n) (hg : 0 < g) (h : ew_lab g e n lb) : ew_ct (fun i => ew_dc (lb i = i)) n = (ew_xl g f n).length := by
  rw [← (ew_xy hp hs hg h).length_eq]
  unfold ew_yl
  rw [List.length_map, ew_ct_r, List.countP_eq_length_filter]
end
end
section
/-! panes, records, firing and expiring, without any machine -/
section
abbrev ew_R : Type := (Nat → Int32) × (Nat → Int32) × (Nat → Int32) × (Nat → Int32) × (Nat → Int32) × Int32
def ew_em (R : ew_R) (kind key s e v : Int32) : ew_R :=
  (upd R.1 (R.2.2.2.2.2 &&& 63).toNatClampNeg kind, upd R.2.1 (R.2.2.2.2.2 &&& 63).toNatClampNeg key, upd R.2.2.1 (R.2.2.2.2.2 &&& 63).toNatClampNeg s, upd R.2.2.2.1 (R.2.2.2.2.2 &&& 63).toNatClampNeg e, upd R.2.2.2.2.1 (R.2.2.2.2.2 &&& 63).toNatClampNeg v, R.2.2.2.2.2 + 1)
def ew_rt (R : ew_R) (p : ew_P) : ew_R := ew_em R 4 (nI p.1) (nI p.2.1) (nI p.2.2.1) p.2.2.2
/-- pane p belongs to session x -/
def ew_bl (x p : ew_P) : Prop := p.1 = x.1 ∧ x.2.1 ≤ p.2.1 ∧ p.2.2.1 ≤ x.2.2.1
noncomputable def ew_B (x : ew_P) (P : List ew_P) : List ew_P := P.filter (fun p => ew_dc (ew_bl x p))
noncomputable def ew_N (x : ew_P) (P : List ew_P) : List ew_P := P.filter (fun p => ew_dc (¬ ew_bl x p))
def ew_pk (p : ew_P) : Nat × Nat := (p.1, p.2.1)
def ew_pl (a b : ew_P) : Prop := ew_lt (ew_pk a) (ew_pk b)
theorem ew_pl_as {a b : ew_P} (h : ew_pl a b) : ¬ ew_pl b a := ew_lt_as h
noncomputable def ew_ins (x : ew_P) : List ew_P → List ew_P
  | [] => [x]
  | y :: l => if ew_dc (ew_pl x y) = true then x :: y :: l else y :: ew_ins x l
theorem ew_ins_p (x : ew_P) : ∀ l, (ew_ins x l).Perm (x :: l) := by
  intro l
  induction l with
  | nil => exact List.Perm.refl _
  | cons y l ih =>
    rw [ew_ins]
    split
    · exact List.Perm.refl _
    · exact (List.Perm.cons y ih).trans (List.Perm.swap x y l)
theorem ew_ins_s (x : ew_P) : ∀ l, l.Pairwise ew_pl → (∀ y, y ∈ l → ew_pk y ≠ ew_pk x) → (ew_ins x l).Pairwise ew_pl := by
  intro l
  induction l with
  | nil => intro _ _; exact List.pairwise_singleton _ _
  | cons y l ih =>
    intro hp hn
    obtain ⟨h1, h2⟩ := List.pairwise_cons.mp hp
    rw [ew_ins]
    split
    · rename_i c
      have c' := ew_dcI.mp c
      refine List.pairwise_cons.mpr ⟨fun z hz => ?_, hp⟩
      rcases List.mem_cons.mp hz with d | d
      · rw [d]
        exact c'
      · have h4 := h1 z d
        unfold ew_pl ew_lt at h4 c' ⊢
        omega
    · rename_i c
      have c' : ¬ ew_pl x y := fun z => c (ew_dcI.mpr z)
      refine List.pairwise_cons.mpr ⟨fun z hz => ?_, ih h2 (fun z hz => hn z (List.mem_cons_of_mem _ hz))⟩
      rcases List.mem_cons.mp ((ew_ins_p x l).mem_iff.mp hz) with d | d
      · rw [d]
        have h3 := hn y List.mem_cons_self
        unfold ew_pl ew_lt at c' ⊢
        by_cases k1 : (ew_pk y).1 = (ew_pk x).1
        · have k3 : (ew_pk y).2 ≠ (ew_pk x).2 := fun k2 => h3 (Prod.ext k1 k2)
          omega
        · omega
      · exact h1 z d
/-- a sorted list is fixed by its members -/
theorem ew_srt1 {l l' : List ew_P} (h : l.Pairwise ew_pl) (h' : l'.Pairwise ew_pl) (p : l.Perm l') : l = l' :=
  List.Perm.eq_of_pairwise (fun _ _ _ _ a b => absurd b (ew_pl_as a)) h h' p
/-- x fires with this kind: panes and records behind it -/
noncomputable def ew_fi (kind : Int32) (st : List ew_P × ew_R) (x : ew_P) : List ew_P × ew_R :=
  @ite _ (ew_B x st.1 = [x]) (Classical.propDecidable _) st
    (if (ew_N x st.1).length < 32 then ew_ins x (ew_N x st.1) else ew_N x st.1, ew_em ((ew_B x st.1).foldl ew_rt st.2) kind (nI x.1) (nI x.2.1) (nI x.2.2.1) x.2.2.2)
theorem ew_fi_y {kind : Int32} {st : List ew_P × ew_R} {x : ew_P} (h : ew_B x st.1 = [x]) : ew_fi kind st x = st := by
  unfold ew_fi
  exact if_pos h
theorem ew_fi_n {kind : Int32} {st : List ew_P × ew_R} {x : ew_P} (h : ¬ ew_B x st.1 = [x]) : ew_fi kind st x = (if (ew_N x st.1).length < 32 then ew_ins x (ew_N x st.1) else ew_N x st.1, ew_em ((ew_B x st.1).foldl ew_rt st.2) kind (nI x.1) (nI x.2.1) (nI x.2.2.1) x.2.2.2) := by
  unfold ew_fi
  exact if_neg h
/-- every pane lies in a session -/
def ew_PI (g : Nat) (M : Nat → Nat → Prop) (p : ew_P) : Prop := p.2.1 < p.2.2.1 ∧ ∃ a b, M p.1 a ∧ M p.1 b ∧ ew_S g M p.1 a b ∧ a ≤ p.2.1 ∧ p.2.2.1 ≤ b + g
def ew_G (g : Nat) (E : List ew_E) (P : List ew_P) : Prop := P.Pairwise ew_pl ∧ (∀ p, p ∈ P → ew_PI g (ew_M E) p) ∧ P.length ≤ 32
theorem ew_BN (x : ew_P) (P : List ew_P) : P.Perm (ew_B x P ++ ew_N x P) := by
  have e1 : (fun p => ! ew_dc (ew_bl x p)) = (fun p => ew_dc (¬ ew_bl x p)) := by
    funext p
    by_cases h : ew_bl x p
    · rw [ew_dcI.mpr h, ew_dcF.mpr (fun z => z h)]
      rfl
    · rw [ew_dcF.mpr h, ew_dcI.mpr h]
      rfl
  have h1 : (P.filter (fun p => ew_dc (ew_bl x p)) ++ P.filter (fun p => ! ew_dc (ew_bl x p))).Perm P := List.filter_append_perm _ P
  rw [e1] at h1
  exact h1.symm
theorem ew_B_m {x p : ew_P} {P : List ew_P} : p ∈ ew_B x P ↔ p ∈ P ∧ ew_bl x p := by
  unfold ew_B
  rw [List.mem_filter, ew_dcI]
theorem ew_N_m {x p : ew_P} {P : List ew_P} : p ∈ ew_N x P ↔ p ∈ P ∧ ¬ ew_bl x p := by
  unfold ew_N
  rw [List.mem_filter, ew_dcI]
variable {g : Nat} {E : List ew_E} {k s : Nat}
/-- the end of a session: its last event's time and the gap -/
theorem ew_ss_e (ho : ew_O g (ew_M E) k s) : ∃ b, ew_M E k b ∧ ew_S g (ew_M E) k s b ∧ (ew_ss g E (k, s)).2.2.1 = b + g ∧ s ≤ b ∧ ∀ b', ew_M E k b' → ew_S g (ew_M E) k s b' → b' ≤ b := by
  obtain ⟨v, hv⟩ := ho.1
  have hne : E.filter (ew_cl g E k s) ≠ [] := List.ne_nil_of_mem (List.mem_filter.mpr ⟨hv, ew_dcI.mpr ⟨rfl, ew_Sr⟩⟩)
  obtain ⟨x, hx, he⟩ := ew_mx_mem _ hne
  obtain ⟨x1, x2⟩ := List.mem_filter.mp hx
  obtain ⟨x3, x4⟩ := ew_dcI.mp x2
  obtain ⟨xk, xt, xv⟩ := x
  dsimp only at x3 x4 he
  subst x3
  refine ⟨xt, ⟨xv, x1⟩, x4, ?_, ew_lo ho x4, ?_⟩
  · show ew_mx (E.filter (ew_cl g E xk s)) + g = xt + g
    rw [he]
  · rintro b' ⟨v', m'⟩ s'
    have := ew_mx_le (E.filter (ew_cl g E xk s)) (xk, b', v') (List.mem_filter.mpr ⟨m', ew_dcI.mpr ⟨rfl, s'⟩⟩)
    rw [he] at this
    exact this
/-- a pane that begins where a session begins belongs to it -/
theorem ew_same (ho : ew_O g (ew_M E) k s) {p : ew_P} (hp : ew_PI g (ew_M E) p) (h1 : p.1 = k) (h2 : p.2.1 = s) : ew_bl (ew_ss g E (k, s)) p := by
  obtain ⟨b0, m0, s0, e0, l0, x0⟩ := ew_ss_e ho
  obtain ⟨lt, a, b, ma, mb, sab, la, lb⟩ := hp
  rw [h1] at ma mb sab
  refine ⟨h1, by rw [h2]; exact Nat.le_refl _, ?_⟩
  rw [e0]
  by_cases c : s ≤ b
  · have ha : s ≤ a := (sab s ho).mpr c
    have : a = s := by omega
    subst this
    have := x0 b mb sab
    omega
  · have := ho.2 b mb (by omega)
    omega
theorem ew_pi_new (hg : 0 < g) (ho : ew_O g (ew_M E) k s) : ew_PI g (ew_M E) (ew_ss g E (k, s)) := by
  obtain ⟨b0, m0, s0, e0, l0, x0⟩ := ew_ss_e ho
  refine ⟨?_, s, b0, ho.1, m0, s0, Nat.le_refl _, Nat.le_of_eq e0⟩
  rw [e0]
  show s < b0 + g
  omega
theorem ew_N_p {P : List ew_P} (x : ew_P) (h : P.Pairwise ew_pl) : (ew_N x P).Pairwise ew_pl := List.Pairwise.filter _ h
theorem ew_B_p {P : List ew_P} (x : ew_P) (h : P.Pairwise ew_pl) : (ew_B x P).Pairwise ew_pl := List.Pairwise.filter _ h
theorem ew_fi_G (hg : 0 < g) (ho : ew_O g (ew_M E) k s) {st : List ew_P × ew_R} {kind : Int32} (h : ew_G g E st.1) : ew_G g E (ew_fi kind st (ew_ss g E (k, s))).1 := by
  by_cases c : ew_B (ew_ss g E (k, s)) st.1 = [ew_ss g E (k, s)]
  · rw [ew_fi_y c]
    exact h
  · rw [ew_fi_n c]
    dsimp only
    obtain ⟨h1, h2, h3⟩ := h
    have hN : (ew_N (ew_ss g E (k, s)) st.1).length ≤ 32 := Nat.le_trans (List.length_filter_le _ _) h3
    split
    · rename_i d
      refine ⟨ew_ins_s _ _ (ew_N_p _ h1) ?_, ?_, ?_⟩
      · intro y hy z
        obtain ⟨y1, y2⟩ := ew_N_m.mp hy
        exact y2 (ew_same ho (h2 y y1) (congrArg Prod.fst z) (congrArg Prod.snd z))
      · intro p hp
        rcases List.mem_cons.mp ((ew_ins_p _ _).mem_iff.mp hp) with z | z
        · subst z
          exact ew_pi_new hg ho
        · exact h2 p (ew_N_m.mp z).1
      · rw [(ew_ins_p _ _).length_eq, List.length_cons]
        omega
    · exact ⟨ew_N_p _ h1, fun p hp => h2 p (ew_N_m.mp hp).1, hN⟩
/-- in sync: one pane belongs, and it is x -/
theorem ew_sync {x : ew_P} {P Q : List ew_P} (hp : P.Perm Q) : ew_B x P = [x] ↔ (ew_B x Q).length = 1 ∧ ∃ p, p ∈ Q ∧ ew_bl x p ∧ p.2.1 = x.2.1 ∧ p.2.2.1 = x.2.2.1 ∧ p.2.2.2 = x.2.2.2 := by
  have hB : (ew_B x P).Perm (ew_B x Q) := hp.filter _
  constructor
  · intro h
    rw [h] at hB
    refine ⟨hB.length_eq.symm, ?_⟩
    have m := ew_B_m.mp (hB.mem_iff.mp List.mem_cons_self)
    exact ⟨x, m.1, m.2, rfl, rfl, rfl⟩
  · rintro ⟨h1, p, m, b, e1, e2, e3⟩
    have hl : (ew_B x P).length = 1 := hB.length_eq.trans h1
    obtain ⟨y, hy⟩ := List.length_eq_one_iff.mp hl
    have hpy : p ∈ ew_B x P := ew_B_m.mpr ⟨hp.mem_iff.mpr m, b⟩
    rw [hy] at hpy ⊢
    have : p = y := List.mem_singleton.mp hpy
    subst this
    have : p = x := Prod.ext b.1 (Prod.ext e1 (Prod.ext e2 e3))
    rw [this]
end
end
section
/-! expiring, relabelling, and moves in arrays, without any machine -/
section
variable {g k s t : Nat} {E : List ew_E}
/-- an event stays: its session has not expired -/
noncomputable def ew_kp (g : Nat) (E : List ew_E) (l W : Nat) (x : ew_E) : Bool := ew_dc (¬ ((ew_ss g E (x.1, ew_st g (ew_M E) x.1 x.2.1)).2.2.1 + l ≤ W))
/-- a pane stays: it belongs to no session that has expired -/
noncomputable def ew_pp (g : Nat) (E : List ew_E) (l W : Nat) (p : ew_P) : Bool := ew_dc (∀ ks : Nat × Nat, ew_O g (ew_M E) ks.1 ks.2 → (ew_ss g E ks).2.2.1 + l ≤ W → ¬ ew_bl (ew_ss g E ks) p)
theorem ew_kp_p {E' : List ew_E} {l W : Nat} (h : E.Perm E') : ew_kp g E l W = ew_kp g E' l W := by
  funext x
  unfold ew_kp
  rw [ew_ss_p h, ew_Mp h]
theorem ew_pp_p {E' : List ew_E} {l W : Nat} (h : E.Perm E') : ew_pp g E l W = ew_pp g E' l W := by
  funext x
  unfold ew_pp
  rw [ew_ss_p h, ew_Mp h]
theorem ew_kp_S {l W : Nat} {v v' : Int32} (h : ew_M E k s) (h' : ew_M E k t) (S : ew_S g (ew_M E) k s t) : ew_kp g E l W (k, s, v) = ew_kp g E l W (k, t, v') := by
  unfold ew_kp
  dsimp only
  rw [ew_st_S h h' S]
theorem ew_kp_M {l W : Nat} {v : Int32} : ew_M (E.filter (ew_kp g E l W)) k t ↔ ew_M E k t ∧ ew_kp g E l W (k, t, v) = true := by
  constructor
  · rintro ⟨v', m⟩
    obtain ⟨m1, m2⟩ := List.mem_filter.mp m
    exact ⟨⟨v', m1⟩, m2⟩
  · rintro ⟨⟨v', m⟩, h⟩
    exact ⟨v', List.mem_filter.mpr ⟨m, h⟩⟩
theorem ew_exp_G {P : List ew_P} {l W : Nat} (h : ew_G g E P) : ew_G g (E.filter (ew_kp g E l W)) (P.filter (ew_pp g E l W)) := by
  obtain ⟨h1, h2, h3⟩ := h
  refine ⟨List.Pairwise.filter _ h1, ?_, Nat.le_trans (List.length_filter_le _ _) h3⟩
  intro p hp
  obtain ⟨p1, p2⟩ := List.mem_filter.mp hp
  have p3 := ew_dcI.mp p2
  obtain ⟨lt, a, b, ma, mb, sab, la, lb⟩ := h2 p p1
  have hk : ew_kp g E l W (p.1, a, 0) = true := by
    apply ew_dcI.mpr
    dsimp only
    intro c
    obtain ⟨o1, o2⟩ := ew_st_s (g := g) ma
    obtain ⟨b0, m0, s0, e0, l0, x0⟩ := ew_ss_e o1
    refine p3 (p.1, ew_st g (ew_M E) p.1 a) o1 c ⟨rfl, ?_, ?_⟩
    · show ew_st g (ew_M E) p.1 a ≤ p.2.1
      have := ew_lo o1 o2
      omega
    · rw [e0]
      have := x0 b mb (ew_St o2 sab)
      omega
  have hk2 : ew_kp g E l W (p.1, b, 0) = true := by
    rw [← ew_kp_S (v := 0) ma mb sab]
    exact hk
  refine ⟨lt, a, b, ew_kp_M.mpr ⟨ma, hk⟩, ew_kp_M.mpr ⟨mb, hk2⟩, ?_, la, lb⟩
  refine ew_restrS ?_ (fun t m => ((ew_kp_M (v := 0)).mp m).1) sab
  intro t t' m m' l1 l2
  obtain ⟨n1, n2⟩ := (ew_kp_M (v := 0)).mp m
  refine (ew_kp_M (v := 0)).mpr ⟨m', ?_⟩
  rw [ew_kp_S (v' := 0) m' n1 (ew_lk m' (Nat.le_of_lt l1) l2)]
  exact n2
/-- more events: the panes still lie in sessions -/
theorem ew_add_G {E' : List ew_E} {P : List ew_P} (sub : ∀ x, x ∈ E → x ∈ E') (h : ew_G g E P) : ew_G g E' P := by
  obtain ⟨h1, h2, h3⟩ := h
  refine ⟨h1, fun p hp => ?_, h3⟩
  obtain ⟨lt, a, b, ma, mb, sab, la, lb⟩ := h2 p hp
  have sub' : ∀ t, ew_M E p.1 t → ew_M E' p.1 t := fun t ⟨v, m⟩ => ⟨v, sub _ m⟩
  exact ⟨lt, a, b, sub' a ma, sub' b mb, ew_mono sub' ma mb sab, la, lb⟩
end
section
variable {g n i j m p : Nat} {e : Nat → ew_E} {lb lb' : Nat → Nat}
def ew_lnk (g : Nat) (e : Nat → ew_E) (i j : Nat) : Prop := (e i).1 = (e j).1 ∧ (e i).2.1 < (e j).2.1 + g ∧ (e j).2.1 < (e i).2.1 + g
theorem ew_lnk_s (h : ew_lnk g e i j) : ew_lnk g e j i := ⟨h.1.symm, h.2.2, h.2.1⟩
theorem ew_lnk_si (hi : i < n) (hj : j < n) (h : ew_lnk g e i j) : ew_si g e n i j := by
  obtain ⟨h1, h2, h3⟩ := h
  refine ⟨h1.symm, ?_⟩
  by_cases c : (e i).2.1 ≤ (e j).2.1
  · exact ew_lk (ew_iM hi) c h3
  · have m : ew_M (ew_L e n) (e j).1 (e j).2.1 := ew_iM hj
    rw [← h1] at m
    exact ew_Ss (ew_lk m (by omega) h2)
theorem ew_clo (hg : 0 < g) (C : Nat → Prop) (hC : ∀ i j, i < n → j < n → ew_lnk g e i j → C i → C j) (hi : i < n) (hj : j < n) (s : ew_si g e n i j) (h : C i) : C j := by
  have hC' : ∀ a b, ew_M (ew_L e n) (e i).1 a → ew_M (ew_L e n) (e i).1 b → a ≤ b → b < a + g → ((∃ x, x < n ∧ (e x).1 = (e i).1 ∧ (e x).2.1 = a ∧ C x) ↔ (∃ x, x < n ∧ (e x).1 = (e i).1 ∧ (e x).2.1 = b ∧ C x)) := by
    intro a b ma mb l1 l2
    obtain ⟨x, hx, x1, x2⟩ := ew_ML.mp ma
    obtain ⟨y, hy, y1, y2⟩ := ew_ML.mp mb
    constructor
    · rintro ⟨z, hz, z1, z2, z3⟩
      exact ⟨y, hy, y1, y2, hC z y hz hy ⟨by rw [z1, y1], by omega, by omega⟩ z3⟩
    · rintro ⟨z, hz, z1, z2, z3⟩
      exact ⟨x, hx, x1, x2, hC z x hz hx ⟨by rw [z1, x1], by omega, by omega⟩ z3⟩
  have mj : ew_M (ew_L e n) (e j).1 (e j).2.1 := ew_iM hj
  rw [s.1] at mj
  obtain ⟨x, hx, h1, h2, h3⟩ := (ew_cls (g := g) (fun t => ∃ x, x < n ∧ (e x).1 = (e i).1 ∧ (e x).2.1 = t ∧ C x) hC' (ew_iM hi) mj s.2).mp ⟨i, hi, rfl, rfl, h⟩
  exact hC x j hx hj ⟨by rw [h1, s.1], by omega, by omega⟩ h3
def ew_i1 (g : Nat) (e : Nat → ew_E) (n : Nat) (lb : Nat → Nat) : Prop := ∀ i, i < n → lb i < n ∧ ew_si g e n i (lb i)
/-- a pass of the relabelling takes lb to lb' -/
def ew_ps (g : Nat) (e : Nat → ew_E) (n : Nat) (lb lb' : Nat → Nat) : Prop := ew_i1 g e n lb' ∧ (∀ i, i < n → lb' i ≤ lb i) ∧ ∀ i j, i < n → j < n → ew_lnk g e i j → lb' i ≤ lb j
def ew_Q (g : Nat) (e : Nat → ew_E) (n p : Nat) (lb : Nat → Nat) : Prop := ew_i1 g e n lb ∧ ∀ m, m < n → (∀ j, j < n → ew_si g e n m j → m ≤ j) →
  (lb m = m ∧ ((∀ i, i < n → ew_si g e n m i → lb i = m) ∨ p + 1 ≤ ew_ct (fun i => ew_dc (lb i = m)) n))
theorem ew_Q0 (h : ∀ i, i < n → lb i = i) : ew_Q g e n 0 lb := by
  refine ⟨fun i hi => by rw [h i hi]; exact ⟨hi, ew_si_r⟩, fun m hm _ => ⟨h m hm, Or.inr ?_⟩⟩
  have := ew_ct_lt (p := fun _ => false) (p' := fun i => ew_dc (lb i = m)) (m := n) (x := m) (fun i _ z => by cases z) hm (fun z => by cases z) (ew_dcI.mpr (h m hm))
  omega
theorem ew_Qs (hg : 0 < g) (h : ew_Q g e n p lb) (hp : ew_ps g e n lb lb') : ew_Q g e n (p + 1) lb' := by
  obtain ⟨h1, h2⟩ := h
  obtain ⟨p1, p2, p3⟩ := hp
  refine ⟨p1, fun m hm mn => ?_⟩
  obtain ⟨a1, a2⟩ := h2 m hm mn
  have ge : ∀ i, i < n → ew_si g e n m i → m ≤ lb' i := fun i hi s => mn _ (p1 i hi).1 (ew_si_t s (p1 i hi).2)
  have keep : ∀ i, i < n → lb i = m → lb' i = m := fun i hi z => by
    have q1 := p2 i hi
    have q2 := (h1 i hi).2
    rw [z] at q2
    have q3 := ge i hi (ew_si_s q2)
    omega
  refine ⟨keep m hm a1, ?_⟩
  by_cases c : ∀ i j, i < n → j < n → ew_lnk g e i j → lb i = m → lb j = m
  · refine Or.inl fun i hi s => keep i hi ?_
    exact ew_clo hg (fun x => lb x = m) c hm hi s a1
  · rcases a2 with a2 | a2
    · exact Or.inl fun i hi s => keep i hi (a2 i hi s)
    · refine Or.inr ?_
      have c2 : ∃ i j, i < n ∧ j < n ∧ ew_lnk g e i j ∧ lb i = m ∧ ¬ lb j = m := by
        refine Classical.byContradiction fun d => c fun i j hi hj l z => ?_
        exact Classical.byContradiction fun w => d ⟨i, j, hi, hj, l, z, w⟩
      obtain ⟨i, j, hi, hj, l, z, w⟩ := c2
      have q1 := p3 j i hj hi (ew_lnk_s l)
      have q2 := (h1 i hi).2
      rw [z] at q2
      have q3 := ge j hj (ew_si_t (ew_si_s q2) (ew_lnk_si hi hj l))
      have := ew_ct_lt (p := fun i => ew_dc (lb i = m)) (p' := fun i => ew_dc (lb' i = m)) (m := n) (x := j) (fun x hx y => ew_dcI.mpr (keep x hx (ew_dcI.mp y))) hj (fun y => w (ew_dcI.mp y)) (ew_dcI.mpr (by omega))
      omega
theorem ew_Qe (h : ew_Q g e n p lb) (hp : n ≤ p) : ew_lab g e n lb := by
  intro i hi
  obtain ⟨m, ⟨hm, s⟩, mn⟩ := pk_least (fun j => j < n ∧ ew_si g e n i j) ⟨i, hi, ew_si_r⟩
  have mn' : ∀ j, j < n → ew_si g e n i j → m ≤ j := fun j hj q => Nat.not_lt.mp fun c => mn j c ⟨hj, q⟩
  obtain ⟨a1, a2⟩ := h.2 m hm (fun j hj q => mn' j hj (ew_si_t s q))
  rcases a2 with a2 | a2
  · have := a2 i hi (ew_si_s s)
    rw [this]
    exact ⟨hm, s, mn'⟩
  · have := ew_ct_le (fun i => ew_dc (lb i = m)) n
    omega
end
section
variable {α : Type} {c i m b : Nat}
theorem ew_rep (q : Nat → α) (b : Nat) (y : α) : ∀ m, b < m → (q b :: ew_L (fun j => if j = b then y else q j) m).Perm (y :: ew_L q m) := by
  intro m
  induction m with
  | zero => intro h; omega
  | succ m ih =>
    intro h
    rw [ew_Ls, ew_Ls]
    by_cases c : m = b
    · have e1 : ew_L (fun j => if j = b then y else q j) m = ew_L q m := ew_Lc (fun i hi => if_neg (by omega))
      rw [if_pos c, e1, c]
      exact ((List.perm_append_singleton y _).cons _).trans ((List.Perm.swap _ _ _).trans ((List.perm_append_singleton (q b) _).symm.cons y))
    · rw [if_neg c]
      exact (ih (by omega)).append_right [q m]
theorem ew_rmv (q : Nat → α) (h : b < m + 1) : (ew_L q (m + 1)).Perm (q b :: ew_L (fun j => if j = b then q m else q j) m) := by
  rw [ew_Ls]
  refine (List.perm_append_singleton _ _).trans ?_
  by_cases c : b = m
  · subst c
    have e1 : ew_L (fun j => if j = b then q b else q j) b = ew_L q b := ew_Lc (fun i hi => if_neg (by omega))
    rw [e1]
  · exact (ew_rep q b (q m) m (by omega)).symm
theorem ew_cpy {cur f : Nat → α} {P : α → Bool} (h : ew_L cur c = (ew_L f i).filter P) (hp : P (f i) = true) : ew_L (fun j => if j = c then f i else cur j) (c + 1) = (ew_L f (i + 1)).filter P := by
  have e1 : ew_L (fun j => if j = c then f i else cur j) c = ew_L cur c := ew_Lc (fun j hj => if_neg (by omega))
  rw [ew_Ls, ew_Ls, List.filter_append, List.filter_cons_of_pos hp, ← h, if_pos rfl, e1]
  rfl
theorem ew_cpn {cur f : Nat → α} {P : α → Bool} (h : ew_L cur c = (ew_L f i).filter P) (hp : ¬ P (f i) = true) : ew_L cur c = (ew_L f (i + 1)).filter P := by
  rw [ew_Ls, List.filter_append, List.filter_cons_of_neg hp, ← h]
  exact (List.append_nil _).symm
/-- f with x put in at place b -/
def ew_put (f : Nat → α) (x : α) (b : Nat) (j : Nat) : α := if j < b then f j else if j = b then x else f (j - 1)
theorem ew_put_p (f : Nat → α) (x : α) (b : Nat) : ∀ m, b ≤ m → (ew_L (ew_put f x b) (m + 1)).Perm (x :: ew_L f m) := by
  intro m
  induction m with
  | zero =>
    intro h
    have : b = 0 := by omega
    subst this
    have e1 : ew_put f x 0 0 = x := by
      unfold ew_put
      rw [if_neg (by omega), if_pos rfl]
    rw [ew_Ls, e1]
    exact List.Perm.refl _
  | succ m ih =>
    intro h
    rw [ew_Ls]
    by_cases c : b = m + 1
    · subst c
      have e1 : ew_put f x (m + 1) (m + 1) = x := by
        unfold ew_put
        rw [if_neg (by omega), if_pos rfl]
      have e2 : ew_L (ew_put f x (m + 1)) (m + 1) = ew_L f (m + 1) := ew_Lc (fun j hj => if_pos hj)
      rw [e1, e2]
      exact List.perm_append_singleton _ _
    · have e1 : ew_put f x b (m + 1) = f m := by
        unfold ew_put
        rw [if_neg (by omega), if_neg (by omega)]
        rfl
      rw [e1, ew_Ls f m]
      exact (ih (by omega)).append_right [f m]
theorem ew_Lp {R : α → α → Prop} {f : Nat → α} : ∀ m, (ew_L f m).Pairwise R ↔ ∀ i j, i < j → j < m → R (f i) (f j) := by
  intro m
  induction m with
  | zero => exact ⟨fun _ i j _ h => by omega, fun _ => List.Pairwise.nil⟩
  | succ m ih =>
    rw [ew_Ls, List.pairwise_append, ih]
    constructor
    · rintro ⟨h1, _, h3⟩ i j hij hj
      by_cases c : j = m
      · subst c
        exact h3 _ (ew_Lm.mpr ⟨i, hij, rfl⟩) _ List.mem_cons_self
      · exact h1 i j hij (by omega)
    · intro h
      refine ⟨fun i j hij hj => h i j hij (by omega), List.pairwise_singleton _ _, ?_⟩
      intro a ha b hb
      obtain ⟨i, hi, rfl⟩ := ew_Lm.mp ha
      rw [List.mem_singleton.mp hb]
      exact h i m hi (by omega)
end
end
section
/-! what the walks ask of the pure part -/
section
variable {g n i j m q x : Nat} {e : Nat → ew_E}
theorem ew_ksX (hs : ew_srt e n) (hx : x < n) (hix : i ≤ x) (ho : ew_op g e i) (hno : ∀ j, i < j → j ≤ x → ¬ ew_op g e j) : ew_ks g e n x = ((e i).1, (e i).2.1) := by
  obtain ⟨q, hb⟩ := ew_bx (g := g) (e := e) (show i < n by omega)
  have hq : x < q := Nat.not_le.mp fun c => hno q hb.1 c (hb.2.2.2 (by omega))
  obtain ⟨k1, s1⟩ := ew_bf hs hb x hix hq
  have O := ew_opO hs (show i < n by omega) ho
  have m : ew_M (ew_L e n) (e x).1 (e x).2.1 := ew_iM hx
  unfold ew_ks
  rw [k1] at m ⊢
  rw [ew_st_e m O s1]
/-- an event stays as its session says -/
theorem ew_kp_k {l W : Nat} : ew_kp g (ew_L e n) l W (e i) = ew_dc (¬ ((ew_ss g (ew_L e n) (ew_ks g e n i)).2.2.1 + l ≤ W)) := rfl
theorem ew_Lad {α : Type} (e : Nat → α) (i : Nat) : ∀ d, ew_L e (i + d) = ew_L e i ++ ew_L (fun j => e (i + j)) d := by
  intro d
  induction d with
  | zero => exact (List.append_nil _).symm
  | succ d ih =>
    rw [← Nat.add_assoc, ew_Ls, ih, ew_Ls, List.append_assoc]
theorem ew_Lsp {α : Type} (e : Nat → α) (h : i ≤ n) : ew_L e n = ew_L e i ++ ew_L (fun j => e (i + j)) (n - i) := by
  rw [← ew_Lad, show i + (n - i) = n by omega]
/-- lists with one prefix of a length -/
theorem ew_Lpre {α : Type} {c e : Nat → α} {nc : Nat} {T : List α} (h : ew_L c nc = ew_L e q ++ T) : nc = q + T.length ∧ (∀ j, j < q → c j = e j) ∧ ew_L (fun j => c (q + j)) (nc - q) = T := by
  have hl := congrArg List.length h
  rw [List.length_append, ew_Ll, ew_Ll] at hl
  have h1 : ∀ j, j < q → c j = e j := by
    intro j hj
    have h2 := congrArg (fun l => l[j]?) h
    rw [ew_Lg (by omega), List.getElem?_append_left (by rw [ew_Ll]; exact hj), ew_Lg hj] at h2
    exact Option.some.inj h2
  refine ⟨hl, h1, ?_⟩
  have e1 : ew_L c q = ew_L e q := ew_Lc h1
  rw [ew_Lsp c (show q ≤ nc by omega), e1] at h
  exact List.append_cancel_left h
/-- one function for two lists -/
def ew_cat {α : Type} (a b : Nat → α) (i j : Nat) : α := if j < i then a j else b (j - i)
theorem ew_cat_L {α : Type} (a b : Nat → α) (i d : Nat) : ew_L (ew_cat a b i) (i + d) = ew_L a i ++ ew_L b d := by
  rw [ew_Lad]
  congr 1
  · exact ew_Lc (fun j hj => if_pos hj)
  · apply ew_Lc
    intro j _
    unfold ew_cat
    rw [if_neg (by omega), Nat.add_sub_cancel_left]
theorem ew_filt_all {α : Type} {l : List α} {P : α → Bool} (h : ∀ x, x ∈ l → P x = true) : l.filter P = l := List.filter_eq_self.mpr h
theorem ew_filt_none {α : Type} {l : List α} {P : α → Bool} (h : ∀ x, x ∈ l → P x = false) : l.filter P = [] := List.filter_eq_nil_iff.mpr (fun x hx z => by rw [h x hx] at z; cases z)
/-- the events behind q that stay -/
noncomputable def ew_T (g : Nat) (e : Nat → ew_E) (n l W q : Nat) : List ew_E := (ew_L (fun j => e (q + j)) (n - q)).filter (ew_kp g (ew_L e n) l W)
theorem ew_T_blk {l W : Nat} (hs : ew_srt e n) (hb : ew_blk g e n i q) (ho : ew_op g e i) : ∀ y, y ∈ ew_L (fun j => e (i + j)) (q - i) → ew_kp g (ew_L e n) l W y = ew_dc (¬ ((ew_ss g (ew_L e n) ((e i).1, (e i).2.1)).2.2.1 + l ≤ W)) := by
  intro y hy
  obtain ⟨j, hj, rfl⟩ := ew_Lm.mp hy
  have h1 := hb.1
  have h2 := hb.2.1
  rw [ew_kp_k, ew_ksX hs (x := i + j) (by omega) (by omega) ho (fun x a b => hb.2.2.1 x a (by omega))]
theorem ew_T_split {l W : Nat} (hb : ew_blk g e n i q) : ew_T g e n l W i = (ew_L (fun j => e (i + j)) (q - i)).filter (ew_kp g (ew_L e n) l W) ++ ew_T g e n l W q := by
  have h1 := hb.1
  have h2 := hb.2.1
  unfold ew_T
  rw [← List.filter_append]
  congr 1
  have := ew_Lad (fun j => e (i + j)) (q - i) (n - q)
  rw [show q - i + (n - q) = n - i by omega] at this
  rw [this]
  congr 1
  apply ew_Lc
  intro j _
  rw [show i + (q - i + j) = q + j by omega]
/-- the session at i stays -/
theorem ew_T_y {l W : Nat} (hs : ew_srt e n) (hb : ew_blk g e n i q) (ho : ew_op g e i) (h : ¬ ((ew_ss g (ew_L e n) ((e i).1, (e i).2.1)).2.2.1 + l ≤ W)) : ew_L e q ++ ew_T g e n l W q = ew_L e i ++ ew_T g e n l W i := by
  have h1 := hb.1
  rw [ew_T_split hb, ew_filt_all (fun y hy => by rw [ew_T_blk hs hb ho y hy]; exact ew_dcI.mpr h), ← List.append_assoc, ← ew_Lsp e (show i ≤ q by omega)]
/-- the session at i goes -/
theorem ew_T_n {l W : Nat} (hs : ew_srt e n) (hb : ew_blk g e n i q) (ho : ew_op g e i) (h : (ew_ss g (ew_L e n) ((e i).1, (e i).2.1)).2.2.1 + l ≤ W) : ew_T g e n l W q = ew_T g e n l W i := by
  rw [ew_T_split hb, ew_filt_none (fun y hy => by rw [ew_T_blk hs hb ho y hy]; exact ew_dcF.mpr (fun z => z h)), List.nil_append]
theorem ew_T_m {l W : Nat} {y : ew_E} (h : y ∈ ew_T g e n l W q) : ∃ j, q ≤ j ∧ j < n ∧ e j = y := by
  obtain ⟨j, hj, h2⟩ := ew_Lm.mp (List.mem_filter.mp h).1
  exact ⟨q + j, by omega, by omega, h2⟩
theorem ew_T_e {l W : Nat} : ew_T g e n l W n = [] := by
  unfold ew_T
  rw [Nat.sub_self]
  rfl
theorem ew_T_0 {l W : Nat} : ew_T g e n l W 0 = (ew_L e n).filter (ew_kp g (ew_L e n) l W) := by
  unfold ew_T
  have e1 : ew_L (fun j => e (0 + j)) (n - 0) = ew_L e n := ew_Lc (fun j _ => by rw [Nat.zero_add])
  rw [e1]
/-- the block at i, in the sequence c that has only the first q of e as they were -/
theorem ew_T_b {c : Nat → ew_E} {nc l W : Nat} (hs : ew_srt e n) (hb : ew_blk g e n i q) (h : ew_L c nc = ew_L e q ++ ew_T g e n l W q) : ew_blk g c nc i q := by
  obtain ⟨h1, h2, h3⟩ := ew_Lpre h
  have b1 := hb.1
  have b2 := hb.2.1
  have op_e : ∀ j, j < q → (ew_op g c j ↔ ew_op g e j) := by
    intro j hj
    unfold ew_op
    rw [h2 j hj, h2 (j - 1) (by omega)]
  refine ⟨b1, by omega, fun j a b z => hb.2.2.1 j a b ((op_e j b).mp z), fun c1 => ?_⟩
  have m : c q ∈ ew_T g e n l W q := by
    rw [← h3]
    exact ew_Lm.mpr ⟨0, by omega, rfl⟩
  obtain ⟨j, j1, j2, j3⟩ := ew_T_m m
  have oq := hb.2.2.2 (by omega)
  have s1 := hs (q - 1) q (by omega) (by omega)
  have s2 := hs q j j1 j2
  unfold ew_op at oq ⊢
  rw [← j3, h2 (q - 1) (by omega)]
  omega
end
section
variable {g n i j m x : Nat} {e : Nat → ew_E}
/-- panes that no expired session opening at a position from x on takes -/
noncomputable def ew_FX (g : Nat) (e : Nat → ew_E) (n l W x : Nat) (p : ew_P) : Bool :=
  ew_dc (∀ j, x ≤ j → j < n → ew_op g e j → (ew_ss g (ew_L e n) ((e j).1, (e j).2.1)).2.2.1 + l ≤ W → ¬ ew_bl (ew_ss g (ew_L e n) ((e j).1, (e j).2.1)) p)
theorem ew_FX_n {l W : Nat} (P : List ew_P) : P.filter (ew_FX g e n l W n) = P :=
  ew_filt_all (fun p _ => ew_dcI.mpr (fun j a b => by omega))
theorem ew_FX_0 {l W : Nat} (hs : ew_srt e n) (hg : 0 < g) : ew_FX g e n l W 0 = ew_pp g (ew_L e n) l W := by
  funext p
  apply ew_dcC
  constructor
  · intro h ks ho he
    have m := (ew_xl_m hs hg).mpr ho
    unfold ew_xl at m
    obtain ⟨j, hj, h2⟩ := List.mem_map.mp m
    obtain ⟨h3, h4⟩ := List.mem_filter.mp hj
    subst h2
    exact h j (Nat.zero_le _) (List.mem_range.mp h3) (ew_dcI.mp h4) he
  · intro h j _ hj ho he
    exact h ((e j).1, (e j).2.1) (ew_opO hs hj ho) he
theorem ew_FX_keep {l W : Nat} (P : List ew_P) (h : ¬ (ew_op g e x ∧ (ew_ss g (ew_L e n) ((e x).1, (e x).2.1)).2.2.1 + l ≤ W)) : P.filter (ew_FX g e n l W (x + 1)) = P.filter (ew_FX g e n l W x) := by
  congr 1
  funext p
  apply ew_dcC
  constructor
  · intro z j a b c d
    by_cases f : j = x
    · subst f
      exact absurd ⟨c, d⟩ h
    · exact z j (by omega) b c d
  · intro z j a
    exact z j (by omega)
theorem ew_FX_go {l W : Nat} (P : List ew_P) (hx : x < n) (ho : ew_op g e x) (h : (ew_ss g (ew_L e n) ((e x).1, (e x).2.1)).2.2.1 + l ≤ W) : ew_N (ew_ss g (ew_L e n) ((e x).1, (e x).2.1)) (P.filter (ew_FX g e n l W (x + 1))) = P.filter (ew_FX g e n l W x) := by
  unfold ew_N
  rw [List.filter_filter]
  congr 1
  funext p
  rw [Bool.eq_iff_iff, Bool.and_eq_true, ew_dcI]
  unfold ew_FX
  rw [ew_dcI, ew_dcI]
  constructor
  · rintro ⟨z1, z2⟩ j a b c d
    by_cases f : j = x
    · subst f
      exact z1
    · exact z2 j (by omega) b c d
  · intro z
    exact ⟨z x (Nat.le_refl _) hx ho h, fun j a => z j (by omega)⟩
variable {lb : Nat → Nat}
/-- panes that no expired session with a representative below x takes -/
noncomputable def ew_FY (g : Nat) (e : Nat → ew_E) (n : Nat) (lb : Nat → Nat) (l W x : Nat) (p : ew_P) : Bool :=
  ew_dc (∀ j, j < x → lb j = j → (ew_ss g (ew_L e n) (ew_ks g e n j)).2.2.1 + l ≤ W → ¬ ew_bl (ew_ss g (ew_L e n) (ew_ks g e n j)) p)
theorem ew_FY_0 {l W : Nat} (P : List ew_P) : P.filter (ew_FY g e n lb l W 0) = P :=
  ew_filt_all (fun p _ => ew_dcI.mpr (fun j a => by omega))
theorem ew_FY_n {l W : Nat} (h : ew_lab g e n lb) : ew_FY g e n lb l W n = ew_pp g (ew_L e n) l W := by
  funext p
  apply ew_dcC
  constructor
  · intro z ks ho he
    have m := (ew_yl_m h).mpr ho
    unfold ew_yl at m
    obtain ⟨j, hj, h2⟩ := List.mem_map.mp m
    obtain ⟨h3, h4⟩ := List.mem_filter.mp hj
    subst h2
    exact z j (List.mem_range.mp h3) (ew_dcI.mp h4) he
  · intro z j hj _ he
    exact z (ew_ks g e n j) (ew_ks_O hj) he
theorem ew_FY_keep {l W : Nat} (P : List ew_P) (h : ¬ (lb x = x ∧ (ew_ss g (ew_L e n) (ew_ks g e n x)).2.2.1 + l ≤ W)) : P.filter (ew_FY g e n lb l W (x + 1)) = P.filter (ew_FY g e n lb l W x) := by
  congr 1
  funext p
  apply ew_dcC
  constructor
  · intro z j a
    exact z j (by omega)
  · intro z j a c d
    by_cases f : j = x
    · subst f
      exact absurd ⟨c, d⟩ h
    · exact z j (by omega) c d
theorem ew_FY_go {l W : Nat} (P : List ew_P) (ho : lb x = x) (h : (ew_ss g (ew_L e n) (ew_ks g e n x)).2.2.1 + l ≤ W) : ew_N (ew_ss g (ew_L e n) (ew_ks g e n x)) (P.filter (ew_FY g e n lb l W x)) = P.filter (ew_FY g e n lb l W (x + 1)) := by
  unfold ew_N
  rw [List.filter_filter]
  congr 1
  funext p
  rw [Bool.eq_iff_iff, Bool.and_eq_true, ew_dcI]
  unfold ew_FY
  rw [ew_dcI, ew_dcI]
  constructor
  · rintro ⟨z1, z2⟩ j a c d
    by_cases f : j = x
    · subst f
      exact z1
    · exact z2 j (by omega) c d
  · intro z
    exact ⟨z x (by omega) ho h, fun j a => z j (by omega)⟩
end
section
variable {m x y : Nat} {q : Nat → ew_P} {P : List ew_P}
theorem ew_prank (hp : P.Perm (ew_L q m)) (hs : P.Pairwise ew_pl) (hx : P[x]? = some (q y)) : ew_ct (fun j => ew_dc (ew_pl (q j) (q y))) m = x := by
  rw [← ew_ct_L q (fun z => ew_dc (ew_pl z (q y))), ← List.countP_eq_length_filter, ← hp.countP_eq]
  exact ew_rk ew_pl (fun _ _ => ew_pl_as) P hs x (q y) hx
theorem ew_prankx (hp : P.Perm (ew_L q m)) (hs : P.Pairwise ew_pl) (hy : y < m) (hx : ew_ct (fun j => ew_dc (ew_pl (q j) (q y))) m = x) : P[x]? = some (q y) := by
  obtain ⟨z, hz⟩ := List.mem_iff_getElem?.mp (hp.mem_iff.mpr (ew_Lm.mpr ⟨y, hy, rfl⟩))
  rw [← hx, ew_prank hp hs hz]
  exact hz
theorem ew_ppx (hp : P.Perm (ew_L q m)) (hs : P.Pairwise ew_pl) (hx : x < m) : ∃ y, y < m ∧ ew_ct (fun j => ew_dc (ew_pl (q j) (q y))) m = x := by
  have hl : P.length = m := hp.length_eq.trans (ew_Ll q m)
  obtain ⟨y, hy, h2⟩ := ew_Lm.mp (hp.mem_iff.mp (List.getElem_mem (show x < P.length by omega)))
  exact ⟨y, hy, ew_prank hp hs (by rw [h2]; exact List.getElem?_eq_getElem _)⟩
/-- the least start among those that belong is the first in order -/
theorem ew_pick {s b z : ew_P} {B N Q : List ew_P} (hQ : Q.Perm ((b :: B) ++ N)) (hs : (b :: B).Pairwise ew_pl) (hB : ∀ y, y ∈ b :: B → ew_bl s y) (hN : ∀ y, y ∈ N → ¬ ew_bl s y)
    (hz : z ∈ Q) (bz : ew_bl s z) (mn : ∀ y, y ∈ Q → ew_bl s y → z.2.1 ≤ y.2.1) : z = b := by
  rcases List.mem_append.mp (hQ.mem_iff.mp hz) with h | h
  · rcases List.mem_cons.mp h with h | h
    · exact h
    · have h1 := (List.pairwise_cons.mp hs).1 z h
      have h2 := mn b (hQ.mem_iff.mpr (List.mem_append.mpr (Or.inl List.mem_cons_self))) (hB b List.mem_cons_self)
      have h3 := (hB b List.mem_cons_self).1
      have h4 := bz.1
      unfold ew_pl ew_lt ew_pk at h1
      dsimp only at h1
      omega
  · exact absurd bz (hN z h)
end
section
variable {g n i j m x : Nat} {e : Nat → ew_E}
theorem ew_ct_pos {p : Nat → Bool} : ∀ m, 0 < ew_ct p m ↔ ∃ i, i < m ∧ p i = true := by
  intro m
  induction m with
  | zero => exact ⟨fun h => absurd h (Nat.lt_irrefl 0), fun ⟨i, h, _⟩ => absurd h (Nat.not_lt_zero i)⟩
  | succ m ih =>
    rw [ew_ct]
    by_cases c : p m = true
    · rw [if_pos c]
      exact ⟨fun _ => ⟨m, Nat.lt_succ_self m, c⟩, fun _ => Nat.succ_pos _⟩
    · rw [if_neg c, ih]
      constructor
      · rintro ⟨i, h, h2⟩
        exact ⟨i, by omega, h2⟩
      · rintro ⟨i, h, h2⟩
        have : i ≠ m := fun z => c (z ▸ h2)
        exact ⟨i, by omega, h2⟩
/-- pane p is x itself -/
def ew_mt (x p : ew_P) : Prop := ew_bl x p ∧ p.2.1 = x.2.1 ∧ p.2.2.1 = x.2.2.1 ∧ p.2.2.2 = x.2.2.2
theorem ew_syncX {P : List ew_P} {p : Nat → ew_P} {x : ew_P} (hp : P.Perm (ew_L p m)) : ew_B x P = [x] ↔ ew_ct (fun i => ew_dc (ew_bl x (p i))) m = 1 ∧ ew_ct (fun i => ew_dc (ew_mt x (p i))) m = 1 := by
  rw [ew_sync hp]
  have e1 : (ew_B x (ew_L p m)).length = ew_ct (fun i => ew_dc (ew_bl x (p i))) m := ew_ct_L p (fun y => ew_dc (ew_bl x y)) m
  have h2 := ew_ct_mono (p := fun i => ew_dc (ew_mt x (p i))) (p' := fun i => ew_dc (ew_bl x (p i))) (m := m) (fun i _ z => ew_dcI.mpr (ew_dcI.mp z).1)
  have h3 := ew_ct_pos (p := fun i => ew_dc (ew_mt x (p i))) m
  rw [e1]
  constructor
  · rintro ⟨a, y, hy, b, c1, c2, c3⟩
    obtain ⟨i, hi, rfl⟩ := ew_Lm.mp hy
    have := h3.mpr ⟨i, hi, ew_dcI.mpr ⟨b, c1, c2, c3⟩⟩
    exact ⟨a, by omega⟩
  · rintro ⟨a, b⟩
    obtain ⟨i, hi, hm⟩ := h3.mp (by omega)
    obtain ⟨d, c1, c2, c3⟩ := ew_dcI.mp hm
    exact ⟨a, p i, ew_Lm.mpr ⟨i, hi, rfl⟩, d, c1, c2, c3⟩
theorem ew_syncY {P : List ew_P} {p : Nat → ew_P} {x : ew_P} (hp : P.Perm (ew_L p m)) : ew_B x P = [x] ↔ ew_ct (fun i => ew_dc (ew_bl x (p i))) m = 1 ∧ 0 < ew_ct (fun i => ew_dc (ew_mt x (p i))) m := by
  rw [ew_syncX hp]
  have h2 := ew_ct_mono (p := fun i => ew_dc (ew_mt x (p i))) (p' := fun i => ew_dc (ew_bl x (p i))) (m := m) (fun i _ z => ew_dcI.mpr (ew_dcI.mp z).1)
  omega
/-- what holds of the numbers: gap, lateness, watermark, stored events -/
def ew_ok (g l W n : Nat) (e : Nat → ew_E) : Prop := 0 < g ∧ g ≤ 1000 ∧ l ≤ 1000 ∧ W ≤ 2100000 ∧ n ≤ 32 ∧ ∀ i, i < n → (e i).1 ≤ 7 ∧ (e i).2.1 ≤ 1000000
theorem ew_okM {l W k t : Nat} (h : ew_ok g l W n e) (m : ew_M (ew_L e n) k t) : k ≤ 7 ∧ t ≤ 1000000 := by
  obtain ⟨i, hi, h1, h2⟩ := ew_ML.mp m
  have := h.2.2.2.2.2 i hi
  omega
theorem ew_okP {l W : Nat} {P : List ew_P} {p : ew_P} (h : ew_ok g l W n e) (hG : ew_G g (ew_L e n) P) (hp : p ∈ P) : p.1 ≤ 7 ∧ p.2.1 < p.2.2.1 ∧ p.2.2.1 ≤ 1001000 := by
  obtain ⟨lt, a, b, ma, mb, sab, la, lb⟩ := hG.2.1 p hp
  have h1 := ew_okM h ma
  have h2 := ew_okM h mb
  have := h.2.1
  omega
theorem ew_okS {l W : Nat} {ks : Nat × Nat} (h : ew_ok g l W n e) (ho : ew_O g (ew_M (ew_L e n)) ks.1 ks.2) : (ew_ss g (ew_L e n) ks).1 ≤ 7 ∧ (ew_ss g (ew_L e n) ks).2.1 ≤ 1000000 ∧ (ew_ss g (ew_L e n) ks).2.2.1 ≤ 1001000 := by
  obtain ⟨b, mb, s, he, l1, _⟩ := ew_ss_e ho
  have h1 := ew_okM h ho.1
  have h2 := ew_okM h mb
  have h3 := h.2.1
  refine ⟨h1.1, h1.2, ?_⟩
  show (ew_ss g (ew_L e n) (ks.1, ks.2)).2.2.1 ≤ 1001000
  rw [he]
  omega
theorem ew_ok_p {l W : Nat} {f : Nat → ew_E} (h : ew_ok g l W n e) (hp : (ew_L e n).Perm (ew_L f n)) : ew_ok g l W n f := by
  obtain ⟨h1, h2, h3, h4, h5, h6⟩ := h
  refine ⟨h1, h2, h3, h4, h5, fun i hi => ?_⟩
  obtain ⟨j, hj, he⟩ := ew_Lm.mp (hp.mem_iff.mpr (ew_Lm.mpr ⟨i, hi, rfl⟩))
  rw [← he]
  exact h6 j hj
/-- arrays that hold events -/
def ew_aE (n : Nat) (e : Nat → ew_E) (ak aT av : Nat → Int32) : Prop := ∀ i, i < n → ak i = nI (e i).1 ∧ aT i = nI (e i).2.1 ∧ av i = (e i).2.2
/-- arrays that hold panes -/
def ew_aP (m : Nat) (p : Nat → ew_P) (pk ps pe pv : Nat → Int32) : Prop := ∀ i, i < m → pk i = nI (p i).1 ∧ ps i = nI (p i).2.1 ∧ pe i = nI (p i).2.2.1 ∧ pv i = (p i).2.2.2
theorem ew_abs {a b : Nat} (ha : a < 2 ^ 30) (hb : b < 2 ^ 30) {A B : Int32 → Prop} (h1 : a < b → A (nI (b - a))) (h2 : b ≤ a → B (nI (a - b))) : (nI a - nI b < 0 → A (-(nI a - nI b))) ∧ (¬ nI a - nI b < 0 → B (nI a - nI b)) := by
  by_cases c : a < b
  · refine br_t (pk_sneg hb c) ?_
    rw [Int32.neg_sub, pk_sub (by omega)]
    exact h1 c
  · rw [pk_sub (by omega)]
    exact br_f (nI_pos (by omega)) (h2 (by omega))
end
section
variable {n m b : Nat}
theorem ew_put_a {α : Type} {f : Nat → α} {x : α} {j : Nat} (h : j < b) : ew_put f x b j = f j := if_pos h
theorem ew_put_b {α : Type} {f : Nat → α} {x : α} : ew_put f x b b = x := by
  unfold ew_put
  rw [if_neg (Nat.lt_irrefl b), if_pos rfl]
theorem ew_put_c {α : Type} {f : Nat → α} {x : α} {j : Nat} (h : b < j) : ew_put f x b j = f (j - 1) := by
  unfold ew_put
  rw [if_neg (by omega), if_neg (by omega)]
theorem ew_put_s {e : Nat → ew_E} {k t : Nat} {v : Int32} (hs : ew_srt e n) (hb : b ≤ n) (h1 : ∀ j, b ≤ j → j < n → k < (e j).1 ∨ (k = (e j).1 ∧ t < (e j).2.1)) (h2 : b = 0 ∨ (e (b - 1)).1 < k ∨ ((e (b - 1)).1 = k ∧ (e (b - 1)).2.1 ≤ t)) : ew_srt (ew_put e (k, t, v) b) (n + 1) := by
  intro i j hij hj
  by_cases a : i < b
  · rw [ew_put_a a]
    by_cases c : j < b
    · rw [ew_put_a c]
      exact hs i j hij (by omega)
    · by_cases d : j = b
      · rw [d, ew_put_b]
        have := hs i (b - 1) (by omega) (by omega)
        dsimp only
        omega
      · rw [ew_put_c (show b < j by omega)]
        exact hs i (j - 1) (by omega) (by omega)
  · by_cases a2 : i = b
    · rw [a2, ew_put_b]
      by_cases d : j = b
      · rw [d, ew_put_b]
        exact Or.inr ⟨rfl, Nat.le_refl _⟩
      · rw [ew_put_c (show b < j by omega)]
        have := h1 (j - 1) (by omega) (by omega)
        dsimp only
        omega
    · rw [ew_put_c (show b < i by omega), ew_put_c (show b < j by omega)]
      exact hs (i - 1) (j - 1) (by omega) (by omega)
theorem ew_put_l {p : Nat → ew_P} {x : ew_P} (hs : (ew_L p m).Pairwise ew_pl) (hb : b ≤ m) (h1 : ∀ j, b ≤ j → j < m → ew_pl x (p j)) (h2 : b = 0 ∨ ¬ ew_pl x (p (b - 1))) (hne : ∀ y, y ∈ ew_L p m → ew_pk y ≠ ew_pk x) : ew_L (ew_put p x b) (m + 1) = ew_ins x (ew_L p m) := by
  refine ew_srt1 ?_ (ew_ins_s x _ hs hne) ((ew_put_p p x b m hb).trans (ew_ins_p x _).symm)
  have hs' := (ew_Lp m).mp hs
  apply (ew_Lp (m + 1)).mpr
  have tr : ∀ {a b c : ew_P}, ew_pl a b → ew_pl b c → ew_pl a c := by
    intro a b c u v
    unfold ew_pl ew_lt at u v ⊢
    omega
  have low : ∀ i, i < b → ew_pl (p i) x := by
    intro i hi
    have h3 : ew_pl (p (b - 1)) x := by
      have n1 := hne (p (b - 1)) (ew_Lm.mpr ⟨b - 1, by omega, rfl⟩)
      have n2 : ¬ ew_pl x (p (b - 1)) := by
        rcases h2 with h2 | h2
        · omega
        · exact h2
      unfold ew_pl ew_lt at n2 ⊢
      by_cases k1 : (ew_pk (p (b - 1))).1 = (ew_pk x).1
      · have k3 : (ew_pk (p (b - 1))).2 ≠ (ew_pk x).2 := fun k2 => n1 (Prod.ext k1 k2)
        omega
      · omega
    by_cases c : i = b - 1
    · rw [c]
      exact h3
    · exact tr (hs' i (b - 1) (by omega) (by omega)) h3
  intro i j hij hj
  by_cases a : i < b
  · rw [ew_put_a a]
    by_cases c : j < b
    · rw [ew_put_a c]
      exact hs' i j hij (by omega)
    · by_cases d : j = b
      · rw [d, ew_put_b]
        exact low i a
      · rw [ew_put_c (show b < j by omega)]
        by_cases f : i = j - 1
        · omega
        · exact hs' i (j - 1) (by omega) (by omega)
  · by_cases a2 : i = b
    · rw [a2, ew_put_b, ew_put_c (show b < j by omega)]
      exact h1 (j - 1) (by omega) (by omega)
    · rw [ew_put_c (show b < i by omega), ew_put_c (show b < j by omega)]
      exact hs' (i - 1) (j - 1) (by omega) (by omega)
end
end
section
/-! what Y's runs over the labels reckon -/
section
variable {g n r j : Nat} {e : Nat → ew_E} {lb : Nat → Nat}
noncomputable def ew_mn (p : Nat → Prop) (T : Nat → Nat) : Nat → Nat
  | 0 => 1000001
  | m + 1 => if ew_dc (p m ∧ T m < ew_mn p T m) = true then T m else ew_mn p T m
noncomputable def ew_mr (p : Nat → Prop) (T : Nat → Nat) : Nat → Nat
  | 0 => 0
  | m + 1 => if ew_dc (p m ∧ ew_mr p T m < T m + 1) = true then T m + 1 else ew_mr p T m
theorem ew_mn_y {p : Nat → Prop} {T : Nat → Nat} {m : Nat} (h : p m ∧ T m < ew_mn p T m) : ew_mn p T (m + 1) = T m := by
  rw [ew_mn, if_pos (ew_dcI.mpr h)]
theorem ew_mn_n {p : Nat → Prop} {T : Nat → Nat} {m : Nat} (h : ¬ (p m ∧ T m < ew_mn p T m)) : ew_mn p T (m + 1) = ew_mn p T m := by
  rw [ew_mn, if_neg (fun z => h (ew_dcI.mp z))]
theorem ew_mr_y {p : Nat → Prop} {T : Nat → Nat} {m : Nat} (h : p m ∧ ew_mr p T m < T m + 1) : ew_mr p T (m + 1) = T m + 1 := by
  rw [ew_mr, if_pos (ew_dcI.mpr h)]
theorem ew_mr_n {p : Nat → Prop} {T : Nat → Nat} {m : Nat} (h : ¬ (p m ∧ ew_mr p T m < T m + 1)) : ew_mr p T (m + 1) = ew_mr p T m := by
  rw [ew_mr, if_neg (fun z => h (ew_dcI.mp z))]
theorem ew_mn_u {p : Nat → Prop} {T : Nat → Nat} : ∀ m, ew_mn p T m ≤ 1000001 := by
  intro m
  induction m with
  | zero => exact Nat.le_refl _
  | succ m ih =>
    by_cases c : p m ∧ T m < ew_mn p T m
    · rw [ew_mn_y c]
      omega
    · rw [ew_mn_n c]
      exact ih
theorem ew_mn_le {p : Nat → Prop} {T : Nat → Nat} : ∀ m j, j < m → p j → ew_mn p T m ≤ T j := by
  intro m
  induction m with
  | zero => intro j h; omega
  | succ m ih =>
    intro j h hp
    by_cases c : p m ∧ T m < ew_mn p T m
    · rw [ew_mn_y c]
      by_cases d : j = m
      · rw [d]
        exact Nat.le_refl _
      · have := ih j (by omega) hp
        omega
    · rw [ew_mn_n c]
      by_cases d : j = m
      · subst d
        exact Nat.not_lt.mp fun z => c ⟨hp, z⟩
      · exact ih j (by omega) hp
theorem ew_mn_mem {p : Nat → Prop} {T : Nat → Nat} : ∀ m, ew_mn p T m = 1000001 ∨ ∃ j, j < m ∧ p j ∧ ew_mn p T m = T j := by
  intro m
  induction m with
  | zero => exact Or.inl rfl
  | succ m ih =>
    by_cases c : p m ∧ T m < ew_mn p T m
    · exact Or.inr ⟨m, Nat.lt_succ_self m, c.1, ew_mn_y c⟩
    · rw [ew_mn_n c]
      rcases ih with h | ⟨j, h1, h2, h3⟩
      · exact Or.inl h
      · exact Or.inr ⟨j, by omega, h2, h3⟩
theorem ew_mr_le {p : Nat → Prop} {T : Nat → Nat} : ∀ m j, j < m → p j → T j + 1 ≤ ew_mr p T m := by
  intro m
  induction m with
  | zero => intro j h; omega
  | succ m ih =>
    intro j h hp
    by_cases c : p m ∧ ew_mr p T m < T m + 1
    · rw [ew_mr_y c]
      by_cases d : j = m
      · rw [d]
        exact Nat.le_refl _
      · have := ih j (by omega) hp
        omega
    · rw [ew_mr_n c]
      by_cases d : j = m
      · subst d
        exact Nat.not_lt.mp fun z => c ⟨hp, z⟩
      · exact ih j (by omega) hp
theorem ew_mr_mem {p : Nat → Prop} {T : Nat → Nat} : ∀ m, ew_mr p T m = 0 ∨ ∃ j, j < m ∧ p j ∧ ew_mr p T m = T j + 1 := by
  intro m
  induction m with
  | zero => exact Or.inl rfl
  | succ m ih =>
    by_cases c : p m ∧ ew_mr p T m < T m + 1
    · exact Or.inr ⟨m, Nat.lt_succ_self m, c.1, ew_mr_y c⟩
    · rw [ew_mr_n c]
      rcases ih with h | ⟨j, h1, h2, h3⟩
      · exact Or.inl h
      · exact Or.inr ⟨j, by omega, h2, h3⟩
theorem ew_ksi (hr : r < n) (hj : j < n) (s : ew_si g e n r j) : ew_S g (ew_M (ew_L e n)) (e r).1 (ew_ks g e n r).2 (e j).2.1 := ew_St (ew_ks_S hr) s.2
theorem ew_mnY (hb : ∀ i, i < n → (e i).2.1 ≤ 1000000) (h : ew_lab g e n lb) (hr : r < n) (hrr : lb r = r) : ew_mn (fun j => lb j = r) (fun j => (e j).2.1) n = (ew_ks g e n r).2 := by
  have ho := ew_ks_O (g := g) (e := e) hr
  obtain ⟨j0, h0, h1, h2⟩ := ew_ML.mp ho.1
  have s0 : ew_si g e n r j0 := ⟨h1, by rw [h2]; exact ew_Ss (ew_ks_S hr)⟩
  have le := ew_mn_le (p := fun j => lb j = r) (T := fun j => (e j).2.1) n j0 h0 ((ew_lab_c h hr hrr h0).mpr s0)
  rcases ew_mn_mem (p := fun j => lb j = r) (T := fun j => (e j).2.1) n with c | ⟨j, hj, hl, he⟩
  · have := hb j0 h0
    omega
  · have := ew_lo ho (ew_ksi hr hj ((ew_lab_c h hr hrr hj).mp hl))
    omega
theorem ew_mrY (h : ew_lab g e n lb) (hr : r < n) (hrr : lb r = r) : ∃ b, ew_mr (fun j => lb j = r) (fun j => (e j).2.1) n = b + 1 ∧ (ew_ss g (ew_L e n) (ew_ks g e n r)).2.2.1 = b + g := by
  have ho := ew_ks_O (g := g) (e := e) hr
  obtain ⟨b, mb, sb, he, _, mx⟩ := ew_ss_e ho
  refine ⟨b, ?_, he⟩
  obtain ⟨j0, h0, h1, h2⟩ := ew_ML.mp mb
  have s0 : ew_si g e n r j0 := ⟨h1, by rw [h2]; exact ew_St (ew_Ss (ew_ks_S hr)) sb⟩
  have le := ew_mr_le (p := fun j => lb j = r) (T := fun j => (e j).2.1) n j0 h0 ((ew_lab_c h hr hrr h0).mpr s0)
  rcases ew_mr_mem (p := fun j => lb j = r) (T := fun j => (e j).2.1) n with c | ⟨j, hj, hl, he2⟩
  · omega
  · have sj := (ew_lab_c h hr hrr hj).mp hl
    have mj : ew_M (ew_L e n) (e j).1 (e j).2.1 := ew_iM hj
    rw [sj.1] at mj
    have := mx _ mj (ew_ksi hr hj sj)
    omega
theorem ew_smY (h : ew_lab g e n lb) (hr : r < n) (hrr : lb r = r) : ew_su (fun j => ew_dc (lb j = r)) (fun j => (e j).2.2) n = (ew_ss g (ew_L e n) (ew_ks g e n r)).2.2.2 := by
  show _ = ew_sm ((ew_L e n).filter (ew_cl g (ew_L e n) (ew_ks g e n r).1 (ew_ks g e n r).2))
  rw [ew_su_L]
  exact ew_su_c (fun j hj => ⟨(ew_clY h hr hrr hj).symm, rfl⟩)
theorem ew_scY (h : ew_lab g e n lb) (hr : r < n) (hrr : lb r = r) : ew_ct (fun j => ew_dc (lb j = r)) n = ew_sc g (ew_L e n) (ew_ks g e n r) := by
  unfold ew_sc
  rw [ew_ct_L]
  exact ew_ct_c (fun j hj => (ew_clY h hr hrr hj).symm)
end
end
section
/-! X: what reads alone -/
section
theorem ew_10 : ¬ (1 : Int32) = 0 := by decide
def ew_ev (g n : Nat) (e : Nat → ew_E) (ak aT av : Nat → Int32) : Prop := 0 < g ∧ g ≤ 1000 ∧ n ≤ 32 ∧ ew_aE n e ak aT av ∧ ∀ i, i < n → (e i).1 ≤ 7 ∧ (e i).2.1 ≤ 1000000
variable {g n m i j q x : Nat} {l w D c : Int32} {ak aT av pk ps pe pv r1 r2 r3 r4 r5 : Nat → Int32} {e : Nat → ew_E}
theorem xa_open (H : ew_ev g n e ak aT av) (hi : i < n) {post : Int32 → Prop} (h1 : ew_op g e i → post 1) (h0 : ¬ ew_op g e i → post 0) : wpX_opensSession post (nI g, l, w, D, nI n, nI m, c, ak, aT, av, pk, ps, pe, pv, r1, r2, r3, r4, r5) (nI i) := by
  obtain ⟨hg, hg2, hn, hE, hb⟩ := H
  by_cases c : i = 0
  · subst c
    exact br_t nI_0 (h1 (Or.inl rfl))
  · have hc : ¬ nI i = 0 := nI_ne0 (by omega) (by omega)
    have e1 : nI i - 1 = nI (i - 1) := by
      obtain ⟨j, rfl⟩ : ∃ j, i = j + 1 := ⟨i - 1, by omega⟩
      exact nI_pred j
    have v1 : vp_in (nI i) 32 := vp_in_nI (by omega) (by omega)
    have v2 : vp_in (nI i - 1) 32 := by
      rw [e1]
      exact vp_in_nI (by omega) (by omega)
    have c1 : (nI i).toNatClampNeg = i := nI_clamp (by omega)
    have c2 : (nI i - 1).toNatClampNeg = i - 1 := by
      rw [e1]
      exact nI_clamp (by omega)
    obtain ⟨k1, t1, _⟩ := hE i hi
    obtain ⟨k2, t2, _⟩ := hE (i - 1) (by omega)
    have b1 := hb i hi
    have b2 := hb (i - 1) (by omega)
    refine br_f hc ⟨v1, v2, ?_⟩
    rw [c1, c2, k1, k2, t1, t2]
    refine ek_if (nI_eq (by omega) (by omega)) (fun hk => ⟨v1, v2, ?_⟩) (fun hk => h1 (Or.inr (Or.inl hk)))
    have hlt : (nI (e i).2.1 - nI (e (i - 1)).2.1 < nI g) ↔ (e i).2.1 < (e (i - 1)).2.1 + g := by
      rw [Int32.lt_iff_toInt_lt, pk_sub_toInt (by omega) (by omega), nI_toInt (by omega)]
      omega
    refine ek_if hlt (fun z => h0 ?_) (fun z => h1 (Or.inr (Or.inr (by omega))))
    unfold ew_op
    omega
theorem xa_past0 (H : ew_ev g n e ak aT av) (hb : ew_blk g e n i q) {post : Int32 → Prop} (hp : post (nI q)) : ∀ d x, x + d = q → i < x → wX_pastSession_4 post (nI g) l w D (nI n) (nI m) c ak aT av pk ps pe pv r1 r2 r3 r4 r5 (d + 1) (nI x) := by
  have hn := H.2.2.1
  have hq := hb.2.1
  intro d
  induction d with
  | zero =>
    intro x hx hi
    have hx' : x = q := by omega
    subst hx'
    by_cases c : x < n
    · exact br_f (nI_ge c (by omega)) (xa_open H c (fun _ => br_f ew_10 hp) (fun z => absurd (hb.2.2.2 c) z))
    · exact br_t (nI_le (by omega) (by omega)) hp
  | succ d ih =>
    intro x hx hi
    exact br_f (nI_ge (by omega) (by omega)) (xa_open H (by omega) (fun z => absurd z (hb.2.2.1 x hi (by omega))) (fun _ => br_t rfl (nm_r (nI_1 x) (ih (x + 1) (by omega) (by omega)))))
theorem xa_past (H : ew_ev g n e ak aT av) (hb : ew_blk g e n i q) {post : Int32 → Prop} (hp : post (nI q)) : wpX_pastSession post (nI g, l, w, D, nI n, nI m, c, ak, aT, av, pk, ps, pe, pv, r1, r2, r3, r4, r5) (nI i) := by
  have := hb.1
  exact nm_r (nI_1 i) ⟨q - (i + 1) + 1, xa_past0 H hb hp (q - (i + 1)) (i + 1) (by omega) (by omega)⟩
theorem ew_q1 {q : Nat} (h : 0 < q) : nI q - 1 = nI (q - 1) := by
  obtain ⟨j, rfl⟩ : ∃ j, q = j + 1 := ⟨q - 1, by omega⟩
  exact nI_pred j
theorem xa_end (H : ew_ev g n e ak aT av) (hb : ew_blk g e n i q) {post : Int32 → Prop} (hp : post (nI ((e (q - 1)).2.1 + g))) : wpX_endOfSession post (nI g, l, w, D, nI n, nI m, c, ak, aT, av, pk, ps, pe, pv, r1, r2, r3, r4, r5) (nI i) := by
  have h1 := hb.1
  have h2 := hb.2.1
  have h3 := H.2.2.1
  have e1 := ew_q1 (show 0 < q by omega)
  refine xa_past H hb ⟨?_, ?_⟩
  · rw [e1]
    exact vp_in_nI (by omega) (by omega)
  · rw [e1, nI_clamp (by omega), (H.2.2.2.1 (q - 1) (by omega)).2.1, nI_add]
    exact hp
theorem xa_sum0 (H : ew_ev g n e ak aT av) (hq : q ≤ n) {post : Int32 → Prop} (hp : post (ew_su (ew_in i q) (fun j => (e j).2.2) q)) : ∀ d x, x + d = q → i ≤ x → wX_sumOfSession_11 post (nI q) (nI g) l w D (nI n) (nI m) c ak aT av pk ps pe pv r1 r2 r3 r4 r5 (d + 1) (ew_su (ew_in i q) (fun j => (e j).2.2) x) (nI x) := by
  have hn := H.2.2.1
  intro d
  induction d with
  | zero =>
    intro x hx hi
    have hx' : x = q := by omega
    subst hx'
    exact br_t (nI_le (by omega) (by omega)) hp
  | succ d ih =>
    intro x hx hi
    refine br_f (nI_ge (by omega) (by omega)) ⟨vp_in_nI (by omega) (by omega), nm_r (e' := ew_su (ew_in i q) (fun j => (e j).2.2) (x + 1)) ?_ (nm_r (nI_1 x) (ih (x + 1) (by omega) (by omega)))⟩
    rw [nI_clamp (by omega), (H.2.2.2.1 x (by omega)).2.2, ew_su, if_pos (ew_inI.mpr ⟨hi, by omega⟩)]
theorem xa_sum (H : ew_ev g n e ak aT av) (hb : ew_blk g e n i q) {post : Int32 → Prop} (hp : post (ew_su (ew_in i q) (fun j => (e j).2.2) q)) : wpX_sumOfSession post (nI g, l, w, D, nI n, nI m, c, ak, aT, av, pk, ps, pe, pv, r1, r2, r3, r4, r5) (nI i) := by
  have h1 := hb.1
  refine xa_past H hb ⟨q - i + 1, ?_⟩
  have := xa_sum0 (l := l) (w := w) (D := D) (m := m) (c := c) (pk := pk) (ps := ps) (pe := pe) (pv := pv) (r1 := r1) (r2 := r2) (r3 := r3) (r4 := r4) (r5 := r5) H hb.2.1 hp (q - i) i (by omega) (Nat.le_refl _)
  rw [ew_su_0 _ i (Nat.le_refl _)] at this
  exact this
theorem xa_first0 (H : ew_ev g n e ak aT av) {post : Int32 → Prop} (hx : x < n) (hp : ∀ i, i ≤ x → ew_op g e i → (∀ j, i < j → j ≤ x → ¬ ew_op g e j) → post (nI i)) : ∀ y, y ≤ x → (∀ j, y < j → j ≤ x → ¬ ew_op g e j) → wX_firstOfSession_2 post (nI g) l w D (nI n) (nI m) c ak aT av pk ps pe pv r1 r2 r3 r4 r5 (y + 1) (nI y) := by
  have hn := H.2.2.1
  intro y
  induction y with
  | zero =>
    intro h1 h2
    exact br_t (nI_le (b := 0) (Nat.le_refl 0) (by omega)) (hp 0 h1 (Or.inl rfl) h2)
  | succ y ih =>
    intro h1 h2
    refine br_f (nI_nle (by omega) (by omega)) (xa_open H (by omega) (fun ho => br_f ew_10 (hp (y + 1) h1 ho h2)) (fun ho => br_t rfl (nm_r (pk_m1 y) (ih (by omega) ?_))))
    intro j a b
    by_cases c : j = y + 1
    · subst c
      exact ho
    · exact h2 j (by omega) b
theorem xa_first (H : ew_ev g n e ak aT av) {post : Int32 → Prop} (hx : x < n) (hp : ∀ i, i ≤ x → ew_op g e i → (∀ j, i < j → j ≤ x → ¬ ew_op g e j) → post (nI i)) : wpX_firstOfSession post (nI g, l, w, D, nI n, nI m, c, ak, aT, av, pk, ps, pe, pv, r1, r2, r3, r4, r5) (nI x) :=
  ⟨x + 1, xa_first0 H hx hp x (Nat.le_refl _) (fun j a b => by omega)⟩
theorem xa_sc0 (H : ew_ev g n e ak aT av) {post : Int32 → Prop} (hp : post (nI (ew_xl g e n).length)) : ∀ d x, x + d = n → wX_sessionCount_4 post (nI g) l w D (nI n) (nI m) c ak aT av pk ps pe pv r1 r2 r3 r4 r5 (d + 1) (nI (ew_xl g e x).length) (nI x) := by
  have hn := H.2.2.1
  intro d
  induction d with
  | zero =>
    intro x hx
    have hx' : x = n := by omega
    subst hx'
    exact br_t (nI_le (by omega) (by omega)) hp
  | succ d ih =>
    intro x hx
    refine br_f (nI_ge (by omega) (by omega)) (xa_open H (by omega) (fun ho => br_f ew_10 (nm_r (e' := nI (ew_xl g e (x + 1)).length) ?_ (nm_r (nI_1 x) (ih (x + 1) (by omega))))) (fun ho => br_t rfl (nm_r (nI_1 x) ?_)))
    · rw [nI_1, ew_xl_y ho, List.length_append]
      rfl
    · have := ih (x + 1) (by omega)
      rw [ew_xl_n ho] at this
      exact this
theorem xa_sc (H : ew_ev g n e ak aT av) {post : Int32 → Prop} (hp : post (nI (ew_xl g e n).length)) : wpX_sessionCount post (nI g, l, w, D, nI n, nI m, c, ak, aT, av, pk, ps, pe, pv, r1, r2, r3, r4, r5) :=
  ⟨n + 1, xa_sc0 H hp n 0 (by omega)⟩
/-- the session at a place, or none -/
theorem xa_at0 (H : ew_ev g n e ak aT av) {post : Int32 → Prop} {z : Int32} (hp : ∀ i, i < n → ew_op g e i → z = nI (ew_xl g e i).length → post (nI i)) (hn0 : (∀ i, i < n → ew_op g e i → z ≠ nI (ew_xl g e i).length) → post (nI n)) :
    ∀ d x, x + d = n → (∀ i, i < x → ew_op g e i → z ≠ nI (ew_xl g e i).length) → wX_firstOfSessionAt_4 post z (nI g) l w D (nI n) (nI m) c ak aT av pk ps pe pv r1 r2 r3 r4 r5 (d + 1) (nI (ew_xl g e x).length) (nI x) := by
  have hn := H.2.2.1
  intro d
  induction d with
  | zero =>
    intro x hx hz
    have hx' : x = n := by omega
    subst hx'
    exact br_t (nI_le (by omega) (by omega)) (hn0 hz)
  | succ d ih =>
    intro x hx hz
    refine br_f (nI_ge (by omega) (by omega)) (xa_open H (by omega) (fun ho => br_f ew_10 (br_c (fun hq => hp x (by omega) ho hq.symm) (fun hq => nm_r (e' := nI (ew_xl g e (x + 1)).length) ?_ (nm_r (nI_1 x) (ih (x + 1) (by omega) ?_))))) (fun ho => br_t rfl (nm_r (nI_1 x) ?_)))
    · rw [nI_1, ew_xl_y ho, List.length_append]
      rfl
    · intro i a b
      by_cases f : i = x
      · subst f
        exact fun z => hq z.symm
      · exact hz i (by omega) b
    · have := ih (x + 1) (by omega) (fun i a b => by
        by_cases f : i = x
        · subst f
          exact absurd b ho
        · exact hz i (by omega) b)
      rw [ew_xl_n ho] at this
      exact this
theorem xa_at (H : ew_ev g n e ak aT av) {post : Int32 → Prop} {z : Int32} (hp : ∀ i, i < n → ew_op g e i → z = nI (ew_xl g e i).length → post (nI i)) (hn0 : (∀ i, i < n → ew_op g e i → z ≠ nI (ew_xl g e i).length) → post (nI n)) : wpX_firstOfSessionAt post (nI g, l, w, D, nI n, nI m, c, ak, aT, av, pk, ps, pe, pv, r1, r2, r3, r4, r5) z :=
  ⟨n + 1, xa_at0 H hp hn0 n 0 (by omega) (fun i a => by omega)⟩
end
end
section
/-! X: panes and records -/
section
def ew_xb (y : ew_P) : Prop := y.1 ≤ 7 ∧ y.2.1 ≤ 1001000 ∧ y.2.2.1 ≤ 1001000
def ew_at (j : Nat) (y : ew_P) (pk ps pe pv : Nat → Int32) : Prop := pk j = nI y.1 ∧ ps j = nI y.2.1 ∧ pe j = nI y.2.2.1 ∧ pv j = y.2.2.2
theorem ew_at_s {k : Nat} {y : ew_P} {pk ps pe pv : Nat → Int32} {a b d f : Int32} (h1 : a = nI y.1) (h2 : b = nI y.2.1) (h3 : d = nI y.2.2.1) (h4 : f = y.2.2.2) : ew_at k y (upd pk k a) (upd ps k b) (upd pe k d) (upd pv k f) :=
  ⟨pk_us.trans h1, pk_us.trans h2, pk_us.trans h3, pk_us.trans h4⟩
theorem ew_at_n {j k : Nat} {y : ew_P} {pk ps pe pv : Nat → Int32} {a b d f : Int32} (hj : j ≠ k) (h : ew_at j y pk ps pe pv) : ew_at j y (upd pk k a) (upd ps k b) (upd pe k d) (upd pv k f) :=
  ⟨(pk_un hj).trans h.1, (pk_un hj).trans h.2.1, (pk_un hj).trans h.2.2.1, (pk_un hj).trans h.2.2.2⟩
variable {g n m i j q x k : Nat} {l w D c : Int32} {ak aT av pk ps pe pv r1 r2 r3 r4 r5 : Nat → Int32} {p : Nat → ew_P} {s y : ew_P} {R : ew_R}
theorem xp_bel (hi : i < 32) (h : ew_at i y pk ps pe pv) (hy : ew_xb y) (hs : ew_xb s) {post : Int32 → Prop} (h1 : ew_bl s y → post 1) (h0 : ¬ ew_bl s y → post 0) : wpX_paneBelongs post (nI g, l, w, D, nI n, nI m, c, ak, aT, av, pk, ps, pe, pv, r1, r2, r3, r4, r5) (nI i) (nI s.1) (nI s.2.1) (nI s.2.2.1) := by
  have v1 : vp_in (nI i) 32 := vp_in_nI hi (by omega)
  have c1 : (nI i).toNatClampNeg = i := nI_clamp (by omega)
  obtain ⟨a1, a2, a3, _⟩ := h
  obtain ⟨b1, b2, b3⟩ := hy
  obtain ⟨d1, d2, d3⟩ := hs
  refine ⟨v1, ?_⟩
  rw [c1, a1, a2, a3]
  refine ek_if (nI_eq (by omega) (by omega)) (fun z1 => ⟨v1, ek_if (nI_ltI (by omega) (by omega)) (fun z2 => h0 (fun z => ?_)) (fun z2 => ⟨v1, ek_if (nI_ltI (by omega) (by omega)) (fun z3 => h0 (fun z => ?_)) (fun z3 => h1 ⟨z1, by omega, by omega⟩)⟩)⟩) (fun z1 => h0 (fun z => z1 z.1))
  · have := z.2.1
    omega
  · have := z.2.2
    omega
theorem xp_aft (hi : i < 32) (h : ew_at i y pk ps pe pv) (hy : ew_xb y) (hs : ew_xb s) {post : Int32 → Prop} (h1 : ew_pl s y → post 1) (h0 : ¬ ew_pl s y → post 0) : wpX_paneComesAfter post (nI g, l, w, D, nI n, nI m, c, ak, aT, av, pk, ps, pe, pv, r1, r2, r3, r4, r5) (nI i) (nI s.1) (nI s.2.1) := by
  have v1 : vp_in (nI i) 32 := vp_in_nI hi (by omega)
  have c1 : (nI i).toNatClampNeg = i := nI_clamp (by omega)
  obtain ⟨a1, a2, a3, _⟩ := h
  obtain ⟨b1, b2, b3⟩ := hy
  obtain ⟨d1, d2, d3⟩ := hs
  have e1 : ew_pl s y ↔ (s.1 < y.1 ∨ (s.1 = y.1 ∧ s.2.1 < y.2.1)) := Iff.rfl
  refine ⟨v1, ?_⟩
  rw [c1, a1, a2]
  refine ek_if (nI_ltI (by omega) (by omega)) (fun z1 => h1 (e1.mpr (by omega))) (fun z1 => ⟨v1, ek_if (nI_eq (by omega) (by omega)) (fun z2 => ⟨v1, ek_if (nI_leI (by omega) (by omega)) (fun z3 => h0 (fun z => ?_)) (fun z3 => h1 (e1.mpr (by omega)))⟩) (fun z2 => h0 (fun z => ?_))⟩)
  · have := e1.mp z
    omega
  · have := e1.mp z
    omega
theorem xp_emit {kd a b d f : Int32} {post : SX → Prop} (h : post (nI g, l, w, D, nI n, nI m, (ew_em R kd a b d f).2.2.2.2.2, ak, aT, av, pk, ps, pe, pv, (ew_em R kd a b d f).1, (ew_em R kd a b d f).2.1, (ew_em R kd a b d f).2.2.1, (ew_em R kd a b d f).2.2.2.1, (ew_em R kd a b d f).2.2.2.2.1)) : wpX_emit post (nI g, l, w, D, nI n, nI m, R.2.2.2.2.2, ak, aT, av, pk, ps, pe, pv, R.1, R.2.1, R.2.2.1, R.2.2.2.1, R.2.2.2.2.1) kd a b d f := by
  have v : vp_in (R.2.2.2.2.2 &&& 63) 64 := pk_andIn _ 6 (by decide) (by decide)
  exact nm_e ⟨v, nm_e ⟨v, nm_e ⟨v, nm_e ⟨v, nm_e ⟨v, nm_e (nm_e h)⟩⟩⟩⟩⟩
theorem xp_move (hi : i < 32) (hj : j < 32) {post : SX → Prop} (h : post (nI g, l, w, D, nI n, nI m, c, ak, aT, av, upd pk j (pk i), upd ps j (ps i), upd pe j (pe i), upd pv j (pv i), r1, r2, r3, r4, r5)) : wpX_movePane post (nI g, l, w, D, nI n, nI m, c, ak, aT, av, pk, ps, pe, pv, r1, r2, r3, r4, r5) (nI i) (nI j) := by
  have vi : vp_in (nI i) 32 := vp_in_nI hi (by omega)
  have vj : vp_in (nI j) 32 := vp_in_nI hj (by omega)
  have ci : (nI i).toNatClampNeg = i := nI_clamp (by omega)
  have cj : (nI j).toNatClampNeg = j := nI_clamp (by omega)
  exact ⟨vi, vj, nm_r (e' := upd pk j (pk i)) (by rw [ci, cj]) ⟨vi, vj, nm_r (e' := upd ps j (ps i)) (by rw [ci, cj]) ⟨vi, vj, nm_r (e' := upd pe j (pe i)) (by rw [ci, cj]) ⟨vi, vj, nm_r (e' := upd pv j (pv i)) (by rw [ci, cj]) h⟩⟩⟩⟩
/-- the arrays hold the panes p -/
def ew_pa (m : Nat) (p : Nat → ew_P) (pk ps pe pv : Nat → Int32) : Prop := m ≤ 32 ∧ ∀ i, i < m → ew_at i (p i) pk ps pe pv ∧ ew_xb (p i)
theorem xp_rem0 (hm : m ≤ 32) (hp : ∀ i, i < m → ew_xb (p i)) (hs : ew_xb s) {post : SX → Prop}
    (K : ∀ k pk ps pe pv q, ew_pa k q pk ps pe pv → ew_L q k = ew_N s (ew_L p m) → post (nI g, l, w, D, nI n, nI k, c, ak, aT, av, pk, ps, pe, pv, r1, r2, r3, r4, r5)) :
    ∀ d x k pk ps pe pv q, x + d = m → k ≤ x → ew_pa k q pk ps pe pv → (∀ j, x ≤ j → j < m → ew_at j (p j) pk ps pe pv) → ew_L q k = ew_N s (ew_L p x) → wX_removePanes_6 post (nI s.1) (nI s.2.1) (nI s.2.2.1) (d + 1) (nI k) (nI x) (nI g) l w D (nI n) (nI m) c ak aT av pk ps pe pv r1 r2 r3 r4 r5 := by
  intro d
  induction d with
  | zero =>
    intro x k pk ps pe pv q hx hk h1 h2 h3
    have hx' : x = m := by omega
    subst hx'
    exact br_t (nI_le (by omega) (by omega)) (K k pk ps pe pv q h1 h3)
  | succ d ih =>
    intro x k pk ps pe pv q hx hk h1 h2 h3
    have hx1 : x < m := by omega
    have ax := h2 x (Nat.le_refl _) hx1
    refine br_f (nI_ge (by omega) (by omega)) (xp_bel (by omega) ax (hp x hx1) hs (fun hb => br_f ew_10 (nm_r (nI_1 x) (ih (x + 1) k pk ps pe pv q (by omega) (by omega) h1 (fun j a b => h2 j (by omega) b) ?_))) (fun hb => br_t rfl (xp_move (by omega) (by omega) (nm_r (nI_1 k) (nm_r (nI_1 x) (ih (x + 1) (k + 1) _ _ _ _ (fun j => if j = k then p x else q j) (by omega) (by omega) ⟨by omega, fun j hj => ?_⟩ (fun j a b => ?_) ?_))))))
    · exact ew_cpn (P := fun y => ew_dc (¬ ew_bl s y)) h3 (fun z => (ew_dcI.mp z) hb)
    · dsimp only
      by_cases c : j = k
      · rw [if_pos c, c]
        exact ⟨ew_at_s ax.1 ax.2.1 ax.2.2.1 ax.2.2.2, hp x hx1⟩
      · rw [if_neg c]
        exact ⟨ew_at_n c (h1.2 j (by omega)).1, (h1.2 j (by omega)).2⟩
    · exact ew_at_n (by omega) (h2 j (by omega) b)
    · exact ew_cpy (P := fun y => ew_dc (¬ ew_bl s y)) h3 (ew_dcI.mpr hb)
theorem xp_rem (H : ew_pa m p pk ps pe pv) (hs : ew_xb s) {post : SX → Prop}
    (K : ∀ k pk ps pe pv q, ew_pa k q pk ps pe pv → ew_L q k = ew_N s (ew_L p m) → post (nI g, l, w, D, nI n, nI k, c, ak, aT, av, pk, ps, pe, pv, r1, r2, r3, r4, r5)) : wpX_removePanes post (nI g, l, w, D, nI n, nI m, c, ak, aT, av, pk, ps, pe, pv, r1, r2, r3, r4, r5) (nI s.1) (nI s.2.1) (nI s.2.2.1) :=
  ⟨m + 1, xp_rem0 H.1 (fun i hi => (H.2 i hi).2) hs K m 0 0 pk ps pe pv p (by omega) (Nat.le_refl _) ⟨by omega, fun j hj => absurd hj (Nat.not_lt_zero j)⟩ (fun j _ hj => (H.2 j hj).1) rfl⟩
theorem xp_ret0 (H : ew_pa m p pk ps pe pv) (hs : ew_xb s) {post : SX → Prop}
    (K : ∀ k pk ps pe pv q, ew_pa k q pk ps pe pv → ew_L q k = ew_N s (ew_L p m) → post (nI g, l, w, D, nI n, nI k, ((ew_B s (ew_L p m)).foldl ew_rt R).2.2.2.2.2, ak, aT, av, pk, ps, pe, pv, ((ew_B s (ew_L p m)).foldl ew_rt R).1, ((ew_B s (ew_L p m)).foldl ew_rt R).2.1, ((ew_B s (ew_L p m)).foldl ew_rt R).2.2.1, ((ew_B s (ew_L p m)).foldl ew_rt R).2.2.2.1, ((ew_B s (ew_L p m)).foldl ew_rt R).2.2.2.2.1)) :
    ∀ d x, x + d = m → wX_retractPanes_3 post (nI s.1) (nI s.2.1) (nI s.2.2.1) (d + 1) (nI x) (nI g) l w D (nI n) (nI m) ((ew_B s (ew_L p x)).foldl ew_rt R).2.2.2.2.2 ak aT av pk ps pe pv ((ew_B s (ew_L p x)).foldl ew_rt R).1 ((ew_B s (ew_L p x)).foldl ew_rt R).2.1 ((ew_B s (ew_L p x)).foldl ew_rt R).2.2.1 ((ew_B s (ew_L p x)).foldl ew_rt R).2.2.2.1 ((ew_B s (ew_L p x)).foldl ew_rt R).2.2.2.2.1 := by
  have hm := H.1
  intro d
  induction d with
  | zero =>
    intro x hx
    have hx' : x = m := by omega
    subst hx'
    exact br_t (nI_le (by omega) (by omega)) (xp_rem H hs K)
  | succ d ih =>
    intro x hx
    have hx1 : x < m := by omega
    have ax := (H.2 x hx1).1
    have v1 : vp_in (nI x) 32 := vp_in_nI (by omega) (by omega)
    have c1 : (nI x).toNatClampNeg = x := nI_clamp (by omega)
    have := ih (x + 1) (by omega)
    refine br_f (nI_ge (by omega) (by omega)) (xp_bel (by omega) ax (H.2 x hx1).2 hs (fun hb => br_f ew_10 ⟨v1, v1, v1, v1, ?_⟩) (fun hb => br_t rfl (nm_r (nI_1 x) ?_)))
    · have e1 : ew_B s (ew_L p (x + 1)) = ew_B s (ew_L p x) ++ [p x] := by
        unfold ew_B
        rw [ew_Ls, List.filter_append, List.filter_cons_of_pos (p := fun y => ew_dc (ew_bl s y)) (ew_dcI.mpr hb)]
        rfl
      rw [c1, ax.1, ax.2.1, ax.2.2.1, ax.2.2.2]
      refine xp_emit (nm_r (nI_1 x) ?_)
      rw [e1, List.foldl_append] at this
      exact this
    · have e1 : ew_B s (ew_L p (x + 1)) = ew_B s (ew_L p x) := by
        unfold ew_B
        rw [ew_Ls, List.filter_append, List.filter_cons_of_neg (p := fun y => ew_dc (ew_bl s y)) (fun z => hb (ew_dcI.mp z))]
        exact List.append_nil _
      rw [e1] at this
      exact this
theorem xp_ret (H : ew_pa m p pk ps pe pv) (hs : ew_xb s) {post : SX → Prop}
    (K : ∀ k pk ps pe pv q, ew_pa k q pk ps pe pv → ew_L q k = ew_N s (ew_L p m) → post (nI g, l, w, D, nI n, nI k, ((ew_B s (ew_L p m)).foldl ew_rt R).2.2.2.2.2, ak, aT, av, pk, ps, pe, pv, ((ew_B s (ew_L p m)).foldl ew_rt R).1, ((ew_B s (ew_L p m)).foldl ew_rt R).2.1, ((ew_B s (ew_L p m)).foldl ew_rt R).2.2.1, ((ew_B s (ew_L p m)).foldl ew_rt R).2.2.2.1, ((ew_B s (ew_L p m)).foldl ew_rt R).2.2.2.2.1)) : wpX_retractPanes post (nI g, l, w, D, nI n, nI m, R.2.2.2.2.2, ak, aT, av, pk, ps, pe, pv, R.1, R.2.1, R.2.2.1, R.2.2.2.1, R.2.2.2.2.1) (nI s.1) (nI s.2.1) (nI s.2.2.1) :=
  ⟨m + 1, xp_ret0 H hs K m 0 (by omega)⟩
theorem xp_syn0 (H : ew_pa m p pk ps pe pv) (hs : ew_xb s) {post : Int32 → Prop} (h1 : ew_B s (ew_L p m) = [s] → post 1) (h0 : ¬ ew_B s (ew_L p m) = [s] → post 0) :
    ∀ d x, x + d = m → wX_isInSync_9 post (nI s.1) (nI s.2.1) (nI s.2.2.1) s.2.2.2 (nI g) l w D (nI n) (nI m) c ak aT av pk ps pe pv r1 r2 r3 r4 r5 (d + 1) (nI (ew_ct (fun i => ew_dc (ew_bl s (p i))) x)) (nI (ew_ct (fun i => ew_dc (ew_mt s (p i))) x)) (nI x) := by
  have hm := H.1
  intro d
  induction d with
  | zero =>
    intro x hx
    have hx' : x = m := by omega
    subst hx'
    have b1 := ew_ct_le (fun i => ew_dc (ew_bl s (p i))) x
    have b2 := ew_ct_le (fun i => ew_dc (ew_mt s (p i))) x
    have sy := ew_syncX (x := s) (List.Perm.refl (ew_L p x))
    refine br_t (nI_le (by omega) (by omega)) (ek_if (nI_eq (b := 1) (by omega) (by omega)) (fun z1 => ek_if (nI_eq (b := 1) (by omega) (by omega)) (fun z2 => h1 (sy.mpr ⟨z1, z2⟩)) (fun z2 => h0 (fun z => z2 (sy.mp z).2))) (fun z1 => h0 (fun z => z1 (sy.mp z).1)))
  | succ d ih =>
    intro x hx
    have hx1 : x < m := by omega
    have ax := (H.2 x hx1).1
    have bx := (H.2 x hx1).2
    have v1 : vp_in (nI x) 32 := vp_in_nI (by omega) (by omega)
    have c1 : (nI x).toNatClampNeg = x := nI_clamp (by omega)
    have IH := ih (x + 1) (by omega)
    obtain ⟨q1, q2, q3⟩ := bx
    obtain ⟨s1, s2, s3⟩ := id hs
    have no : ¬ ew_mt s (p x) → ew_ct (fun i => ew_dc (ew_mt s (p i))) (x + 1) = ew_ct (fun i => ew_dc (ew_mt s (p i))) x := fun z => by
      rw [ew_ct, if_neg (fun y => z (ew_dcI.mp y))]
    refine br_f (nI_ge (by omega) (by omega)) (xp_bel (by omega) ax (H.2 x hx1).2 hs (fun hb => br_f ew_10 (nm_r (e' := nI (ew_ct (fun i => ew_dc (ew_bl s (p i))) (x + 1))) ?_ ⟨v1, ?_⟩)) (fun hb => br_t rfl (nm_r (nI_1 x) ?_)))
    · rw [nI_1, ew_ct, if_pos (ew_dcI.mpr hb)]
    · rw [c1, ax.2.1, ax.2.2.1, ax.2.2.2]
      refine ek_if (nI_eq (by omega) (by omega)) (fun z1 => ⟨v1, ek_if (nI_eq (by omega) (by omega)) (fun z2 => ⟨v1, br_c (fun z3 => nm_r (e' := nI (ew_ct (fun i => ew_dc (ew_mt s (p i))) (x + 1))) ?_ (nm_r (nI_1 x) IH)) (fun z3 => nm_r (nI_1 x) ?_)⟩) (fun z2 => nm_r (nI_1 x) ?_)⟩) (fun z1 => nm_r (nI_1 x) ?_)
      · rw [nI_1, ew_ct, if_pos (ew_dcI.mpr ⟨hb, z1, z2, z3⟩)]
      · rw [no (fun z => z3 z.2.2.2)] at IH
        exact IH
      · rw [no (fun z => z2 z.2.2.1)] at IH
        exact IH
      · rw [no (fun z => z1 z.2.1)] at IH
        exact IH
    · rw [no (fun z => hb z.1), ew_ct, if_neg (fun z => hb (ew_dcI.mp z))] at IH
      exact IH
theorem xp_syn (H : ew_pa m p pk ps pe pv) (hs : ew_xb s) {post : Int32 → Prop} (h1 : ew_B s (ew_L p m) = [s] → post 1) (h0 : ¬ ew_B s (ew_L p m) = [s] → post 0) : wpX_isInSync post (nI g, l, w, D, nI n, nI m, c, ak, aT, av, pk, ps, pe, pv, r1, r2, r3, r4, r5) (nI s.1) (nI s.2.1) (nI s.2.2.1) s.2.2.2 :=
  ⟨m + 1, xp_syn0 H hs h1 h0 m 0 (by omega)⟩
end
end
section
/-! X: addPane, insertEvent, fire -/
section
variable {g n m i j q x k b : Nat} {l w D c : Int32} {ak aT av pk ps pe pv r1 r2 r3 r4 r5 : Nat → Int32} {p : Nat → ew_P} {s y : ew_P} {R : ew_R} {e : Nat → ew_E}
theorem xp_add1 (hb : b ≤ m) (hm : m < 32) (hp : ∀ i, i < m → ew_xb (p i)) (hs : ew_xb s) {post : SX → Prop}
    (K : ∀ pk ps pe pv q, ew_pa (m + 1) q pk ps pe pv → ew_L q (m + 1) = ew_L (ew_put p s b) (m + 1) → post (nI g, l, w, D, nI n, nI (m + 1), c, ak, aT, av, pk, ps, pe, pv, r1, r2, r3, r4, r5))
    (h1 : ∀ j, j < b → ew_at j (p j) pk ps pe pv) (h2 : ∀ j, b < j → j ≤ m → ew_at j (p (j - 1)) pk ps pe pv) : wX_addPane_50 post (nI s.1) (nI s.2.1) (nI s.2.2.1) s.2.2.2 (nI b) (nI g) l w D (nI n) (nI m) c ak aT av pk ps pe pv r1 r2 r3 r4 r5 := by
  have v1 : vp_in (nI b) 32 := vp_in_nI (by omega) (by omega)
  have c1 : (nI b).toNatClampNeg = b := nI_clamp (by omega)
  refine ⟨v1, nm_r (e' := upd pk b (nI s.1)) (by rw [c1]) ⟨v1, nm_r (e' := upd ps b (nI s.2.1)) (by rw [c1]) ⟨v1, nm_r (e' := upd pe b (nI s.2.2.1)) (by rw [c1]) ⟨v1, nm_r (e' := upd pv b s.2.2.2) (by rw [c1]) (nm_r (nI_1 m) (K _ _ _ _ (ew_put p s b) ⟨by omega, fun j hj => ?_⟩ rfl))⟩⟩⟩⟩
  by_cases a : j < b
  · rw [ew_put_a a]
    exact ⟨ew_at_n (by omega) (h1 j a), hp j (by omega)⟩
  · by_cases d : j = b
    · rw [d, ew_put_b]
      exact ⟨ew_at_s rfl rfl rfl rfl, hs⟩
    · rw [ew_put_c (show b < j by omega)]
      exact ⟨ew_at_n d (h2 j (by omega) (by omega)), hp (j - 1) (by omega)⟩
theorem xp_add0 (hm : m < 32) (hp : ∀ i, i < m → ew_xb (p i)) (hs : ew_xb s) {post : SX → Prop}
    (K : ∀ b pk ps pe pv q, b ≤ m → (∀ j, b ≤ j → j < m → ew_pl s (p j)) → (b = 0 ∨ ¬ ew_pl s (p (b - 1))) → ew_pa (m + 1) q pk ps pe pv → ew_L q (m + 1) = ew_L (ew_put p s b) (m + 1) → post (nI g, l, w, D, nI n, nI (m + 1), c, ak, aT, av, pk, ps, pe, pv, r1, r2, r3, r4, r5)) :
    ∀ b pk ps pe pv, b ≤ m → (∀ j, b ≤ j → j < m → ew_pl s (p j)) → (∀ j, j < b → ew_at j (p j) pk ps pe pv) → (∀ j, b < j → j ≤ m → ew_at j (p (j - 1)) pk ps pe pv) → wX_addPane_16 post (nI s.1) (nI s.2.1) (nI s.2.2.1) s.2.2.2 (b + 1) (nI b) (nI g) l w D (nI n) (nI m) c ak aT av pk ps pe pv r1 r2 r3 r4 r5 := by
  intro b
  induction b with
  | zero =>
    intro pk ps pe pv hb hl h1 h2
    exact br_t (nI_le (b := 0) (Nat.le_refl 0) (by omega)) (xp_add1 hb hm hp hs (fun pk ps pe pv q a1 a2 => K 0 pk ps pe pv q hb hl (Or.inl rfl) a1 a2) h1 h2)
  | succ b ih =>
    intro pk ps pe pv hb hl h1 h2
    have e1 : nI (b + 1) - 1 = nI b := nI_pred b
    have a1 := h1 b (by omega)
    refine br_f (nI_nle (by omega) (by omega)) ?_
    rw [e1]
    refine xp_aft (by omega) a1 (hp b (by omega)) hs (fun z => br_f ew_10 (xp_move (by omega) (by omega) (nm_r (pk_m1 b) (ih _ _ _ _ (by omega) (fun j u v => ?_) (fun j u => ew_at_n (by omega) (h1 j (by omega))) (fun j u v => ?_))))) (fun z => br_t rfl (xp_add1 hb hm hp hs (fun pk ps pe pv q d1 d2 => K (b + 1) pk ps pe pv q hb hl (Or.inr z) d1 d2) h1 h2))
    · by_cases f : j = b
      · subst f
        exact z
      · exact hl j (by omega) v
    · by_cases f : j = b + 1
      · subst f
        exact ew_at_s a1.1 a1.2.1 a1.2.2.1 a1.2.2.2
      · exact ew_at_n f (h2 j (by omega) v)
theorem xp_add (H : ew_pa m p pk ps pe pv) (hs : ew_xb s) (hsr : (ew_L p m).Pairwise ew_pl) (hne : ∀ y, y ∈ ew_L p m → ew_pk y ≠ ew_pk s) {post : SX → Prop}
    (K : ∀ k pk ps pe pv q, ew_pa k q pk ps pe pv → ew_L q k = (if (ew_L p m).length < 32 then ew_ins s (ew_L p m) else ew_L p m) → post (nI g, l, w, D, nI n, nI k, c, ak, aT, av, pk, ps, pe, pv, r1, r2, r3, r4, r5)) : wpX_addPane post (nI g, l, w, D, nI n, nI m, c, ak, aT, av, pk, ps, pe, pv, r1, r2, r3, r4, r5) (nI s.1) (nI s.2.1) (nI s.2.2.1) s.2.2.2 := by
  have hm := H.1
  rw [ew_Ll] at K
  refine ek_if (nI_ltI (b := 32) (by omega) (by omega)) (fun z => ⟨m + 1, ?_⟩) (fun z => ?_)
  · refine xp_add0 z (fun i hi => (H.2 i hi).2) hs (fun b pk ps pe pv q h1 h2 h3 h4 h5 => K (m + 1) pk ps pe pv q h4 ?_) m pk ps pe pv (Nat.le_refl _) (fun j u v => by omega) (fun j u => (H.2 j u).1) (fun j u v => by omega)
    rw [if_pos z, h5]
    exact ew_put_l hsr h1 h2 h3 hne
  · refine K m pk ps pe pv p H ?_
    rw [if_neg z]
def ew_ae (j : Nat) (y : ew_E) (ak aT av : Nat → Int32) : Prop := ak j = nI y.1 ∧ aT j = nI y.2.1 ∧ av j = y.2.2
theorem ew_ae_s {k : Nat} {y : ew_E} {ak aT av : Nat → Int32} {a b d : Int32} (h1 : a = nI y.1) (h2 : b = nI y.2.1) (h3 : d = y.2.2) : ew_ae k y (upd ak k a) (upd aT k b) (upd av k d) :=
  ⟨pk_us.trans h1, pk_us.trans h2, pk_us.trans h3⟩
theorem ew_ae_n {j k : Nat} {y : ew_E} {ak aT av : Nat → Int32} {a b d : Int32} (hj : j ≠ k) (h : ew_ae j y ak aT av) : ew_ae j y (upd ak k a) (upd aT k b) (upd av k d) :=
  ⟨(pk_un hj).trans h.1, (pk_un hj).trans h.2.1, (pk_un hj).trans h.2.2⟩
theorem xe_move (hi : i < 32) (hj : j < 32) {post : SX → Prop} (h : post (nI g, l, w, D, nI n, nI m, c, upd ak j (ak i), upd aT j (aT i), upd av j (av i), pk, ps, pe, pv, r1, r2, r3, r4, r5)) : wpX_moveEvent post (nI g, l, w, D, nI n, nI m, c, ak, aT, av, pk, ps, pe, pv, r1, r2, r3, r4, r5) (nI i) (nI j) := by
  have vi : vp_in (nI i) 32 := vp_in_nI hi (by omega)
  have vj : vp_in (nI j) 32 := vp_in_nI hj (by omega)
  have ci : (nI i).toNatClampNeg = i := nI_clamp (by omega)
  have cj : (nI j).toNatClampNeg = j := nI_clamp (by omega)
  exact ⟨vi, vj, nm_r (e' := upd ak j (ak i)) (by rw [ci, cj]) ⟨vi, vj, nm_r (e' := upd aT j (aT i)) (by rw [ci, cj]) ⟨vi, vj, nm_r (e' := upd av j (av i)) (by rw [ci, cj]) h⟩⟩⟩
def ew_ela (s y : ew_E) : Prop := s.1 < y.1 ∨ (s.1 = y.1 ∧ s.2.1 < y.2.1)
def ew_eb (y : ew_E) : Prop := y.1 ≤ 7 ∧ y.2.1 ≤ 1000000
theorem xe_aft {s y : ew_E} (hi : i < 32) (h : ew_ae i y ak aT av) (hy : ew_eb y) (hs : ew_eb s) {post : Int32 → Prop} (h1 : ew_ela s y → post 1) (h0 : ¬ ew_ela s y → post 0) : wpX_eventComesAfter post (nI g, l, w, D, nI n, nI m, c, ak, aT, av, pk, ps, pe, pv, r1, r2, r3, r4, r5) (nI i) (nI s.1) (nI s.2.1) := by
  have v1 : vp_in (nI i) 32 := vp_in_nI hi (by omega)
  have c1 : (nI i).toNatClampNeg = i := nI_clamp (by omega)
  obtain ⟨a1, a2, _⟩ := h
  obtain ⟨b1, b2⟩ := hy
  obtain ⟨d1, d2⟩ := hs
  have e1 : ew_ela s y ↔ (s.1 < y.1 ∨ (s.1 = y.1 ∧ s.2.1 < y.2.1)) := Iff.rfl
  refine ⟨v1, ?_⟩
  rw [c1, a1, a2]
  refine ek_if (nI_ltI (by omega) (by omega)) (fun z1 => h1 (e1.mpr (by omega))) (fun z1 => ⟨v1, ek_if (nI_eq (by omega) (by omega)) (fun z2 => ⟨v1, ek_if (nI_leI (by omega) (by omega)) (fun z3 => h0 (fun z => ?_)) (fun z3 => h1 (e1.mpr (by omega)))⟩) (fun z2 => h0 (fun z => ?_))⟩)
  · have := e1.mp z
    omega
  · have := e1.mp z
    omega
theorem xe_ins1 {s : ew_E} (hb : b ≤ n) (hn : n < 32) {post : Int32 → SX → Prop}
    (K : ∀ ak aT av, ew_aE (n + 1) (ew_put e s b) ak aT av → post (nI b) (nI g, l, w, D, nI (n + 1), nI m, c, ak, aT, av, pk, ps, pe, pv, r1, r2, r3, r4, r5))
    (h1 : ∀ j, j < b → ew_ae j (e j) ak aT av) (h2 : ∀ j, b < j → j ≤ n → ew_ae j (e (j - 1)) ak aT av) : wX_insertEvent_40 post (nI s.1) (nI s.2.1) s.2.2 (nI b) (nI g) l w D (nI n) (nI m) c ak aT av pk ps pe pv r1 r2 r3 r4 r5 := by
  have v1 : vp_in (nI b) 32 := vp_in_nI (by omega) (by omega)
  have c1 : (nI b).toNatClampNeg = b := nI_clamp (by omega)
  refine ⟨v1, nm_r (e' := upd ak b (nI s.1)) (by rw [c1]) ⟨v1, nm_r (e' := upd aT b (nI s.2.1)) (by rw [c1]) ⟨v1, nm_r (e' := upd av b s.2.2) (by rw [c1]) (nm_r (nI_1 n) (K _ _ _ (fun j hj => ?_)))⟩⟩⟩
  by_cases a : j < b
  · rw [ew_put_a a]
    exact ew_ae_n (by omega) (h1 j a)
  · by_cases d : j = b
    · rw [d, ew_put_b]
      exact ew_ae_s rfl rfl rfl
    · rw [ew_put_c (show b < j by omega)]
      exact ew_ae_n d (h2 j (by omega) (by omega))
theorem xe_ins0 {s : ew_E} (hn : n < 32) (hp : ∀ i, i < n → ew_eb (e i)) (hs : ew_eb s) {post : Int32 → SX → Prop}
    (K : ∀ b ak aT av, b ≤ n → (∀ j, b ≤ j → j < n → ew_ela s (e j)) → (b = 0 ∨ ¬ ew_ela s (e (b - 1))) → ew_aE (n + 1) (ew_put e s b) ak aT av → post (nI b) (nI g, l, w, D, nI (n + 1), nI m, c, ak, aT, av, pk, ps, pe, pv, r1, r2, r3, r4, r5)) :
    ∀ b ak aT av, b ≤ n → (∀ j, b ≤ j → j < n → ew_ela s (e j)) → (∀ j, j < b → ew_ae j (e j) ak aT av) → (∀ j, b < j → j ≤ n → ew_ae j (e (j - 1)) ak aT av) → wX_insertEvent_6 post (nI s.1) (nI s.2.1) s.2.2 (b + 1) (nI b) (nI g) l w D (nI n) (nI m) c ak aT av pk ps pe pv r1 r2 r3 r4 r5 := by
  intro b
  induction b with
  | zero =>
    intro ak aT av hb hl h1 h2
    exact br_t (nI_le (b := 0) (Nat.le_refl 0) (by omega)) (xe_ins1 hb hn (fun ak aT av a1 => K 0 ak aT av hb hl (Or.inl rfl) a1) h1 h2)
  | succ b ih =>
    intro ak aT av hb hl h1 h2
    have e1 : nI (b + 1) - 1 = nI b := nI_pred b
    have a1 := h1 b (by omega)
    refine br_f (nI_nle (by omega) (by omega)) ?_
    rw [e1]
    refine xe_aft (by omega) a1 (hp b (by omega)) hs (fun z => br_f ew_10 (xe_move (by omega) (by omega) (nm_r (pk_m1 b) (ih _ _ _ (by omega) (fun j u v => ?_) (fun j u => ew_ae_n (by omega) (h1 j (by omega))) (fun j u v => ?_))))) (fun z => br_t rfl (xe_ins1 hb hn (fun ak aT av d1 => K (b + 1) ak aT av hb hl (Or.inr z) d1) h1 h2))
    · by_cases f : j = b
      · subst f
        exact z
      · exact hl j (by omega) v
    · by_cases f : j = b + 1
      · subst f
        exact ew_ae_s a1.1 a1.2.1 a1.2.2
      · exact ew_ae_n f (h2 j (by omega) v)
theorem xe_ins {s : ew_E} (H : ew_ev g n e ak aT av) (hn : n < 32) (hs : ew_eb s) {post : Int32 → SX → Prop}
    (K : ∀ b ak aT av, b ≤ n → (∀ j, b ≤ j → j < n → ew_ela s (e j)) → (b = 0 ∨ ¬ ew_ela s (e (b - 1))) → ew_aE (n + 1) (ew_put e s b) ak aT av → post (nI b) (nI g, l, w, D, nI (n + 1), nI m, c, ak, aT, av, pk, ps, pe, pv, r1, r2, r3, r4, r5)) : wpX_insertEvent post (nI g, l, w, D, nI n, nI m, c, ak, aT, av, pk, ps, pe, pv, r1, r2, r3, r4, r5) (nI s.1) (nI s.2.1) s.2.2 :=
  ⟨n + 1, xe_ins0 hn H.2.2.2.2 hs K n ak aT av (Nat.le_refl _) (fun j u v => by omega) (fun j u => H.2.2.2.1 j u) (fun j u v => by omega)⟩
/-- firing, as X does it -/
theorem xa_fire {kd : Int32} (H : ew_ev g n e ak aT av) (Hs : ew_srt e n) (HP : ew_pa m p pk ps pe pv) (HG : ew_G g (ew_L e n) (ew_L p m)) (hi : i < n) (ho : ew_op g e i) {post : SX → Prop}
    (K : ∀ k pk ps pe pv q R', ew_pa k q pk ps pe pv → (ew_L q k, R') = ew_fi kd (ew_L p m, R) (ew_ss g (ew_L e n) ((e i).1, (e i).2.1)) → post (nI g, l, w, D, nI n, nI k, R'.2.2.2.2.2, ak, aT, av, pk, ps, pe, pv, R'.1, R'.2.1, R'.2.2.1, R'.2.2.2.1, R'.2.2.2.2.1)) : wpX_fire post (nI g, l, w, D, nI n, nI m, R.2.2.2.2.2, ak, aT, av, pk, ps, pe, pv, R.1, R.2.1, R.2.2.1, R.2.2.2.1, R.2.2.2.2.1) (nI i) kd := by
  obtain ⟨hg, hg2, hn, hE, hb⟩ := id H
  obtain ⟨q, B⟩ := ew_bx (g := g) (e := e) hi
  have B1 := B.1
  have B2 := B.2.1
  have v1 : vp_in (nI i) 32 := vp_in_nI (by omega) (by omega)
  have c1 : (nI i).toNatClampNeg = i := nI_clamp (by omega)
  have O := ew_opO Hs hi ho
  obtain ⟨S1, _⟩ := ew_sX Hs hg ho B
  have hs : ew_xb (ew_ss g (ew_L e n) ((e i).1, (e i).2.1)) := by
    rw [S1]
    have b1 := hb i hi
    have b2 := hb (q - 1) (by omega)
    refine ⟨b1.1, ?_, ?_⟩ <;> dsimp only <;> omega
  have hne : ∀ y, y ∈ ew_N (ew_ss g (ew_L e n) ((e i).1, (e i).2.1)) (ew_L p m) → ew_pk y ≠ ew_pk (ew_ss g (ew_L e n) ((e i).1, (e i).2.1)) := by
    intro y hy z
    obtain ⟨y1, y2⟩ := ew_N_m.mp hy
    exact y2 (ew_same O (HG.2.1 y y1) (congrArg Prod.fst z) (congrArg Prod.snd z))
  have hNp := ew_N_p (ew_ss g (ew_L e n) ((e i).1, (e i).2.1)) HG.1
  have Fy := ew_fi_y (kind := kd) (st := (ew_L p m, R)) (x := ew_ss g (ew_L e n) ((e i).1, (e i).2.1))
  have Fn := ew_fi_n (kind := kd) (st := (ew_L p m, R)) (x := ew_ss g (ew_L e n) ((e i).1, (e i).2.1))
  refine ⟨v1, nm_r (e' := nI (e i).1) (by rw [c1, (hE i hi).1]) ⟨v1, nm_r (e' := nI (e i).2.1) (by rw [c1, (hE i hi).2.1]) ?_⟩⟩
  refine xa_end H B ?_
  refine xa_sum H B ?_
  rw [S1] at hs hne hNp Fy Fn K
  refine xp_syn (s := ((e i).1, (e i).2.1, (e (q - 1)).2.1 + g, ew_su (ew_in i q) (fun j => (e j).2.2) q)) HP hs (fun z => br_f ew_10 ?_) (fun z => br_t rfl ?_)
  · exact K m pk ps pe pv p R HP (Fy z).symm
  · refine xp_ret HP hs (fun k pk ps pe pv q' h1 h2 => xp_emit ?_)
    refine xp_add h1 hs (by rw [h2]; exact hNp) (by rw [h2]; exact hne) (fun k2 pk ps pe pv q2 h3 h4 => ?_)
    refine K k2 pk ps pe pv q2 _ h3 ?_
    rw [Fn z, h4, h2]
end
end
section
/-! X: expiring, advancing, firing early, adding -/
section
variable {g n m i j q x k b y lt W : Nat} {l w D c0 : Int32} {ak aT av pk ps pe pv r1 r2 r3 r4 r5 : Nat → Int32} {p : Nat → ew_P} {s : ew_P} {R : ew_R} {e c : Nat → ew_E}
theorem xe_shift0 {nc : Nat} (hn : nc ≤ 32) (hiq : i < q) {post : SX → Prop}
    (K : ∀ k ak aT av f, ew_aE k f ak aT av → ew_L f k = ew_L c i ++ ew_L (fun j => c (q + j)) (nc - q) → post (nI g, l, w, D, nI k, nI m, c0, ak, aT, av, pk, ps, pe, pv, r1, r2, r3, r4, r5)) :
    ∀ d x k ak aT av f, x + d = nc → q ≤ x → k = i + (x - q) → ew_aE k f ak aT av → (∀ j, x ≤ j → j < nc → ew_ae j (c j) ak aT av) → ew_L f k = ew_L c i ++ ew_L (fun j => c (q + j)) (x - q) → wX_expire_43 post (d + 1) (nI k) (nI x) (nI g) l w D (nI nc) (nI m) c0 ak aT av pk ps pe pv r1 r2 r3 r4 r5 := by
  intro d
  induction d with
  | zero =>
    intro x k ak aT av f hx hq hk h1 h2 h3
    have hx' : x = nc := by omega
    subst hx'
    exact br_t (nI_le (by omega) (by omega)) (K k ak aT av f h1 h3)
  | succ d ih =>
    intro x k ak aT av f hx hq hk h1 h2 h3
    have ax := h2 x (Nat.le_refl _) (by omega)
    refine br_f (nI_ge (by omega) (by omega)) (xe_move (by omega) (by omega) (nm_r (nI_1 k) (nm_r (nI_1 x) (ih (x + 1) (k + 1) _ _ _ (fun j => if j = k then c x else f j) (by omega) (by omega) (by omega) (fun j hj => ?_) (fun j a b => ?_) ?_))))
    · dsimp only
      by_cases z : j = k
      · rw [if_pos z, z]
        exact ew_ae_s ax.1 ax.2.1 ax.2.2
      · rw [if_neg z]
        exact ew_ae_n z (h1 j (by omega))
    · exact ew_ae_n (by omega) (h2 j (by omega) b)
    · have e1 : ew_L (fun j => if j = k then c x else f j) k = ew_L f k := ew_Lc (fun j hj => if_neg (by omega))
      rw [ew_Ls, if_pos rfl, e1, h3, show x + 1 - q = (x - q) + 1 by omega, ew_Ls, show q + (x - q) = x by omega, List.append_assoc]
theorem xa_exp {nc : Nat} (H : ew_ev g nc c ak aT av) (HP : ew_pa m p pk ps pe pv) (B : ew_blk g c nc i q) (hs : ew_xb s) (s1 : s.1 = (c i).1) (s2 : s.2.1 = (c i).2.1) (s3 : s.2.2.1 = (c (q - 1)).2.1 + g) {post : SX → Prop}
    (K : ∀ k ak aT av f m' pk ps pe pv p', ew_aE k f ak aT av → ew_L f k = ew_L c i ++ ew_L (fun j => c (q + j)) (nc - q) → ew_pa m' p' pk ps pe pv → ew_L p' m' = ew_N s (ew_L p m) → post (nI g, l, w, D, nI k, nI m', c0, ak, aT, av, pk, ps, pe, pv, r1, r2, r3, r4, r5)) : wpX_expire post (nI g, l, w, D, nI nc, nI m, c0, ak, aT, av, pk, ps, pe, pv, r1, r2, r3, r4, r5) (nI i) := by
  obtain ⟨hg, hg2, hn, hE, hb⟩ := id H
  have B1 := B.1
  have B2 := B.2.1
  have v1 : vp_in (nI i) 32 := vp_in_nI (by omega) (by omega)
  have c1 : (nI i).toNatClampNeg = i := nI_clamp (by omega)
  have e1 := ew_q1 (show 0 < q by omega)
  have a1 := hE i (by omega)
  refine xa_past H B ⟨?_, nm_r (e' := nI s.2.2.1) ?_ ⟨v1, v1, ?_⟩⟩
  · rw [e1]
    exact vp_in_nI (by omega) (by omega)
  · rw [e1, nI_clamp (by omega), (hE (q - 1) (by omega)).2.1, nI_add, s3]
  · rw [c1, a1.1, a1.2.1, ← s1, ← s2]
    refine xp_rem HP hs (fun m' pk ps pe pv p' h1 h2 => ⟨nc - q + 1, ?_⟩)
    refine xe_shift0 hn B1 (fun k ak aT av f g1 g2 => K k ak aT av f m' pk ps pe pv p' g1 g2 h1 h2) (nc - q) q i ak aT av c (by omega) (Nat.le_refl _) (by omega) (fun j hj => hE j (by omega)) (fun j _ hj => hE j hj) ?_
    rw [Nat.sub_self]
    exact (List.append_nil _).symm
theorem xa_exps0 (hok : ew_ok g lt W n e) (Hs : ew_srt e n) {P0 : List ew_P} {post : SX → Prop}
    (K : ∀ nc mc c p ak aT av pk ps pe pv, ew_aE nc c ak aT av → ew_L c nc = (ew_L e n).filter (ew_kp g (ew_L e n) lt W) → ew_pa mc p pk ps pe pv → ew_L p mc = P0.filter (ew_pp g (ew_L e n) lt W) → post (nI g, nI lt, nI W, D, nI nc, nI mc, c0, ak, aT, av, pk, ps, pe, pv, r1, r2, r3, r4, r5)) :
    ∀ y Q nc mc c p ak aT av pk ps pe pv, y ≤ Q → Q ≤ n → (∀ j, y ≤ j → j < Q → ¬ ew_op g e j) → (Q < n → ew_op g e Q) → ew_aE nc c ak aT av → ew_L c nc = ew_L e Q ++ ew_T g e n lt W Q → ew_pa mc p pk ps pe pv → ew_L p mc = P0.filter (ew_FX g e n lt W y) →
      wX_expireSessions_7 post (y + 1) (nI y - 1) (nI g) (nI lt) (nI W) D (nI nc) (nI mc) c0 ak aT av pk ps pe pv r1 r2 r3 r4 r5 := by
  obtain ⟨o1, o2, o3, o4, o5, o6⟩ := id hok
  intro y
  induction y with
  | zero =>
    intro Q nc mc c p ak aT av pk ps pe pv h1 h2 h3 h4 h5 h6 h7 h8
    have hQ : Q = 0 := Nat.le_antisymm (Nat.not_lt.mp fun z => h3 0 (Nat.le_refl _) z (Or.inl rfl)) (Nat.zero_le _)
    subst hQ
    rw [ew_T_0] at h6
    rw [ew_FX_0 Hs o1] at h8
    exact br_t (by decide) (K nc mc c p ak aT av pk ps pe pv h5 h6 h7 h8)
  | succ y ih =>
    intro Q nc mc c p ak aT av pk ps pe pv h1 h2 h3 h4 h5 h6 h7 h8
    obtain ⟨L1, L2, L3⟩ := ew_Lpre h6
    have hT : (ew_T g e n lt W Q).length ≤ n - Q := by
      refine Nat.le_trans (List.length_filter_le _ _) ?_
      rw [ew_Ll]
      exact Nat.le_refl _
    have H : ew_ev g nc c ak aT av := by
      refine ⟨o1, o2, by omega, h5, fun j hj => ?_⟩
      have hm : c j ∈ ew_L e Q ++ ew_T g e n lt W Q := by
        rw [← h6]
        exact ew_Lm.mpr ⟨j, hj, rfl⟩
      rcases List.mem_append.mp hm with z | z
      · obtain ⟨t, ht, z2⟩ := ew_Lm.mp z
        rw [← z2]
        exact o6 t (by omega)
      · obtain ⟨t, _, ht, z2⟩ := ew_T_m z
        rw [← z2]
        exact o6 t ht
    have hop : ew_op g c y ↔ ew_op g e y := by
      unfold ew_op
      rw [L2 y (by omega), L2 (y - 1) (by omega)]
    have em : nI y + (-1) = nI y - 1 := (Int32.sub_eq_add_neg _ _).symm
    rw [nI_pred]
    refine br_f (nI_pos (by omega)) (xa_open H (by omega) (fun ho => br_f ew_10 ?_) (fun ho => br_t rfl (nm_r em (ih Q nc mc c p ak aT av pk ps pe pv (by omega) h2 (fun j a b => ?_) h4 h5 h6 h7 ?_))))
    · have ho' := hop.mp ho
      have B : ew_blk g e n y Q := ⟨by omega, h2, fun j a b => h3 j (by omega) b, h4⟩
      have Bc := ew_T_b Hs B h6
      obtain ⟨S1, _⟩ := ew_sX Hs o1 ho' B
      have O := ew_opO Hs (show y < n by omega) ho'
      have bs := ew_okS (ks := ((e y).1, (e y).2.1)) hok O
      have hend : (c (Q - 1)).2.1 + g = (ew_ss g (ew_L e n) ((e y).1, (e y).2.1)).2.2.1 := by
        rw [S1, L2 (Q - 1) (by omega)]
      refine xa_end H Bc ?_
      rw [hend, nI_add]
      refine ek_if (nI_ltI (by omega) (by omega)) (fun z => nm_r em (ih y nc mc c p ak aT av pk ps pe pv (Nat.le_refl _) (by omega) (fun j a b => by omega) (fun _ => ho') h5 ?_ h7 ?_)) (fun z => ?_)
      · rw [← ew_T_y Hs B ho' (by omega)]
        exact h6
      · rw [h8]
        exact ew_FX_keep P0 (fun z2 => by have := z2.2; omega)
      · refine xa_exp H h7 Bc (s := ew_ss g (ew_L e n) ((e y).1, (e y).2.1)) ⟨bs.1, by omega, bs.2.2⟩ ?_ ?_ hend.symm (fun k ak aT av f m' pk ps pe pv p' g1 g2 g3 g4 => nm_r em (ih y k m' f p' ak aT av pk ps pe pv (Nat.le_refl _) (by omega) (fun j a b => by omega) (fun _ => ho') g1 ?_ g3 ?_))
        · rw [L2 y (by omega)]
          rfl
        · rw [L2 y (by omega)]
          rfl
        · have e2 : ew_L c y = ew_L e y := ew_Lc (fun j hj => L2 j (by omega))
          rw [g2, L3, e2, ew_T_n Hs B ho' (by omega)]
        · rw [g4, h8]
          exact ew_FX_go P0 (by omega) ho' (by omega)
    · by_cases f : j = y
      · subst f
        exact fun z => ho (hop.mpr z)
      · exact h3 j (by omega) b
    · rw [h8]
      exact ew_FX_keep P0 (fun z2 => ho (hop.mpr z2.1))
theorem xa_exps (hok : ew_ok g lt W n e) (Hs : ew_srt e n) (hE : ew_aE n e ak aT av) (HP : ew_pa m p pk ps pe pv) {post : SX → Prop}
    (K : ∀ nc mc c p' ak aT av pk ps pe pv, ew_aE nc c ak aT av → ew_L c nc = (ew_L e n).filter (ew_kp g (ew_L e n) lt W) → ew_pa mc p' pk ps pe pv → ew_L p' mc = (ew_L p m).filter (ew_pp g (ew_L e n) lt W) → post (nI g, nI lt, nI W, D, nI nc, nI mc, c0, ak, aT, av, pk, ps, pe, pv, r1, r2, r3, r4, r5)) : wpX_expireSessions post (nI g, nI lt, nI W, D, nI n, nI m, c0, ak, aT, av, pk, ps, pe, pv, r1, r2, r3, r4, r5) := by
  refine nm_e ⟨n + 1, xa_exps0 hok Hs (P0 := ew_L p m) K n n n m e p ak aT av pk ps pe pv (Nat.le_refl _) (Nat.le_refl _) (fun j a b => by omega) (fun z => by omega) hE ?_ HP ?_⟩
  · rw [ew_T_e, List.append_nil]
  · rw [ew_FX_n]
/-- fire, if the end is so -/
noncomputable def ew_fs (kd : Int32) (t : Nat → Bool) (g : Nat) (E : List ew_E) (st : List ew_P × ew_R) (ks : Nat × Nat) : List ew_P × ew_R := if t (ew_ss g E ks).2.2.1 = true then ew_fi kd st (ew_ss g E ks) else st
theorem ew_fs_y {kd : Int32} {t : Nat → Bool} {E : List ew_E} {st : List ew_P × ew_R} {ks : Nat × Nat} (h : t (ew_ss g E ks).2.2.1 = true) : ew_fs kd t g E st ks = ew_fi kd st (ew_ss g E ks) := by
  unfold ew_fs
  rw [if_pos h]
theorem ew_fs_n {kd : Int32} {t : Nat → Bool} {E : List ew_E} {st : List ew_P × ew_R} {ks : Nat × Nat} (h : ¬ t (ew_ss g E ks).2.2.1 = true) : ew_fs kd t g E st ks = st := by
  unfold ew_fs
  rw [if_neg h]
theorem ew_fs_G {kd : Int32} {t : Nat → Bool} {E : List ew_E} {st : List ew_P × ew_R} {ks : Nat × Nat} (hg : 0 < g) (ho : ew_O g (ew_M E) ks.1 ks.2) (h : ew_G g E st.1) : ew_G g E (ew_fs kd t g E st ks).1 := by
  unfold ew_fs
  split
  · exact ew_fi_G hg (k := ks.1) (s := ks.2) ho h
  · exact h
theorem ew_ff_G {kd : Int32} {t : Nat → Bool} {E : List ew_E} (hg : 0 < g) : ∀ (L : List (Nat × Nat)) (st : List ew_P × ew_R), (∀ ks, ks ∈ L → ew_O g (ew_M E) ks.1 ks.2) → ew_G g E st.1 → ew_G g E (L.foldl (ew_fs kd t g E) st).1 := by
  intro L
  induction L with
  | nil => intro st _ h; exact h
  | cons a L ih =>
    intro st ho h
    exact ih _ (fun ks hk => ho ks (List.mem_cons_of_mem _ hk)) (ew_fs_G hg (ho a List.mem_cons_self) h)
theorem ew_xl_O (Hs : ew_srt e n) (hx : x ≤ n) {ks : Nat × Nat} (h : ks ∈ ew_xl g e x) : ew_O g (ew_M (ew_L e n)) ks.1 ks.2 := by
  unfold ew_xl at h
  obtain ⟨j, hj, rfl⟩ := List.mem_map.mp h
  obtain ⟨h1, h2⟩ := List.mem_filter.mp hj
  have := List.mem_range.mp h1
  exact ew_opO Hs (by omega) (ew_dcI.mp h2)
theorem xa_adv0 (hok : ew_ok g lt W n e) (Hs : ew_srt e n) (hE : ew_aE n e ak aT av) {st0 : List ew_P × ew_R} (HG : ew_G g (ew_L e n) st0.1) {post : Int32 → SX → Prop} {x2 : Int32}
    (K : ∀ nc mc c p R ak aT av pk ps pe pv, ew_aE nc c ak aT av → ew_L c nc = (ew_L e n).filter (ew_kp g (ew_L e n) lt W) → ew_pa mc p pk ps pe pv → (ew_L p mc, R) = (((ew_xl g e n).foldl (ew_fs 2 (fun z => ew_dc (z ≤ W)) g (ew_L e n)) st0).1.filter (ew_pp g (ew_L e n) lt W), ((ew_xl g e n).foldl (ew_fs 2 (fun z => ew_dc (z ≤ W)) g (ew_L e n)) st0).2) → post (R.2.2.2.2.2 - x2) (nI g, nI lt, nI W, D, nI nc, nI mc, R.2.2.2.2.2, ak, aT, av, pk, ps, pe, pv, R.1, R.2.1, R.2.2.1, R.2.2.2.1, R.2.2.2.2.1)) :
    ∀ d x m p R pk ps pe pv, x + d = n → ew_pa m p pk ps pe pv → (ew_L p m, R) = (ew_xl g e x).foldl (ew_fs 2 (fun z => ew_dc (z ≤ W)) g (ew_L e n)) st0 → wX_advance_28 post x2 (d + 1) (nI x) (nI g) (nI lt) (nI W) D (nI n) (nI m) R.2.2.2.2.2 ak aT av pk ps pe pv R.1 R.2.1 R.2.2.1 R.2.2.2.1 R.2.2.2.2.1 := by
  obtain ⟨o1, o2, o3, o4, o5, o6⟩ := id hok
  have H : ew_ev g n e ak aT av := ⟨o1, o2, o5, hE, o6⟩
  intro d
  induction d with
  | zero =>
    intro x m p R pk ps pe pv hx HP hR
    have hx' : x = n := by omega
    subst hx'
    refine br_t (nI_le (by omega) (by omega)) (xa_exps hok Hs hE HP (fun nc mc c p' ak aT av pk ps pe pv g1 g2 g3 g4 => K nc mc c p' R ak aT av pk ps pe pv g1 g2 g3 ?_))
    rw [← hR, g4]
  | succ d ih =>
    intro x m p R pk ps pe pv hx HP hR
    have G1 : ew_G g (ew_L e n) (ew_L p m) := by
      have := ew_ff_G (kd := 2) (t := fun z => ew_dc (z ≤ W)) o1 (ew_xl g e x) st0 (fun ks hk => ew_xl_O Hs (by omega) hk) HG
      rw [← hR] at this
      exact this
    refine br_f (nI_ge (by omega) (by omega)) (xa_open H (by omega) (fun ho => br_f ew_10 ?_) (fun ho => br_t rfl (nm_r (nI_1 x) (ih (x + 1) m p R pk ps pe pv (by omega) HP ?_))))
    · obtain ⟨q, B⟩ := ew_bx (g := g) (e := e) (show x < n by omega)
      obtain ⟨S1, _⟩ := ew_sX Hs o1 ho B
      have O := ew_opO Hs (show x < n by omega) ho
      have bs := ew_okS (ks := ((e x).1, (e x).2.1)) hok O
      have hend : (e (q - 1)).2.1 + g = (ew_ss g (ew_L e n) ((e x).1, (e x).2.1)).2.2.1 := by rw [S1]
      refine xa_end H B ?_
      rw [hend]
      refine ek_if (nI_ltI (by omega) (by omega)) (fun z => nm_r (nI_1 x) (ih (x + 1) m p R pk ps pe pv (by omega) HP ?_)) (fun z => xa_fire H Hs HP G1 (by omega) ho (fun k pk ps pe pv q' R' g1 g2 => nm_r (nI_1 x) (ih (x + 1) k q' R' pk ps pe pv (by omega) g1 ?_)))
      · rw [hR, ew_xl_y ho, List.foldl_append]
        rw [List.foldl_cons, List.foldl_nil, ew_fs_n]
        intro z2
        have := ew_dcI.mp z2
        omega
      · rw [g2, hR, ew_xl_y ho, List.foldl_append]
        rw [List.foldl_cons, List.foldl_nil, ew_fs_y (t := fun z => ew_dc (z ≤ W)) (ew_dcI.mpr (by omega))]
    · rw [hR, ew_xl_n ho]
theorem xa_adv (hok : ew_ok g lt W n e) (Hs : ew_srt e n) (hE : ew_aE n e ak aT av) (HP : ew_pa m p pk ps pe pv) (HG : ew_G g (ew_L e n) (ew_L p m)) {W' : Nat} (hW : W < W') (hW2 : W' ≤ 2100000) {post : Int32 → SX → Prop}
    (K : ∀ nc mc c p' R' ak aT av pk ps pe pv, ew_aE nc c ak aT av → ew_L c nc = (ew_L e n).filter (ew_kp g (ew_L e n) lt W') → ew_pa mc p' pk ps pe pv → (ew_L p' mc, R') = (((ew_xl g e n).foldl (ew_fs 2 (fun z => ew_dc (z ≤ W')) g (ew_L e n)) (ew_L p m, R)).1.filter (ew_pp g (ew_L e n) lt W'), ((ew_xl g e n).foldl (ew_fs 2 (fun z => ew_dc (z ≤ W')) g (ew_L e n)) (ew_L p m, R)).2) → post (R'.2.2.2.2.2 - R.2.2.2.2.2) (nI g, nI lt, nI W', D, nI nc, nI mc, R'.2.2.2.2.2, ak, aT, av, pk, ps, pe, pv, R'.1, R'.2.1, R'.2.2.1, R'.2.2.2.1, R'.2.2.2.2.1)) : wpX_advance post (nI g, nI lt, nI W, D, nI n, nI m, R.2.2.2.2.2, ak, aT, av, pk, ps, pe, pv, R.1, R.2.1, R.2.2.1, R.2.2.2.1, R.2.2.2.2.1) (nI W') := by
  have hok' : ew_ok g lt W' n e := ⟨hok.1, hok.2.1, hok.2.2.1, hW2, hok.2.2.2.2⟩
  have h4 := hok.2.2.2.1
  exact br_f (nI_ge hW (by omega)) (br_t (nI_le (b := 2100000) hW2 (by omega)) ⟨n + 1, xa_adv0 hok' Hs hE HG K n 0 m p R pk ps pe pv (by omega) HP rfl⟩)
theorem xa_ear0 (hok : ew_ok g lt W n e) (Hs : ew_srt e n) (hE : ew_aE n e ak aT av) {st0 : List ew_P × ew_R} (HG : ew_G g (ew_L e n) st0.1) {post : Int32 → SX → Prop} {x2 : Int32}
    (K : ∀ m p R pk ps pe pv, ew_pa m p pk ps pe pv → (ew_L p m, R) = (ew_xl g e n).foldl (ew_fs 1 (fun z => ew_dc (¬ z ≤ W)) g (ew_L e n)) st0 → post (R.2.2.2.2.2 - x2) (nI g, nI lt, nI W, D, nI n, nI m, R.2.2.2.2.2, ak, aT, av, pk, ps, pe, pv, R.1, R.2.1, R.2.2.1, R.2.2.2.1, R.2.2.2.2.1)) :
    ∀ d x m p R pk ps pe pv, x + d = n → ew_pa m p pk ps pe pv → (ew_L p m, R) = (ew_xl g e x).foldl (ew_fs 1 (fun z => ew_dc (¬ z ≤ W)) g (ew_L e n)) st0 → wX_early_7 post x2 (d + 1) (nI x) (nI g) (nI lt) (nI W) D (nI n) (nI m) R.2.2.2.2.2 ak aT av pk ps pe pv R.1 R.2.1 R.2.2.1 R.2.2.2.1 R.2.2.2.2.1 := by
  obtain ⟨o1, o2, o3, o4, o5, o6⟩ := id hok
  have H : ew_ev g n e ak aT av := ⟨o1, o2, o5, hE, o6⟩
  intro d
  induction d with
  | zero =>
    intro x m p R pk ps pe pv hx HP hR
    have hx' : x = n := by omega
    subst hx'
    exact br_t (nI_le (by omega) (by omega)) (K m p R pk ps pe pv HP hR)
  | succ d ih =>
    intro x m p R pk ps pe pv hx HP hR
    have G1 : ew_G g (ew_L e n) (ew_L p m) := by
      have := ew_ff_G (kd := 1) (t := fun z => ew_dc (¬ z ≤ W)) o1 (ew_xl g e x) st0 (fun ks hk => ew_xl_O Hs (by omega) hk) HG
      rw [← hR] at this
      exact this
    refine br_f (nI_ge (by omega) (by omega)) (xa_open H (by omega) (fun ho => br_f ew_10 ?_) (fun ho => br_t rfl (nm_r (nI_1 x) (ih (x + 1) m p R pk ps pe pv (by omega) HP ?_))))
    · obtain ⟨q, B⟩ := ew_bx (g := g) (e := e) (show x < n by omega)
      obtain ⟨S1, _⟩ := ew_sX Hs o1 ho B
      have O := ew_opO Hs (show x < n by omega) ho
      have bs := ew_okS (ks := ((e x).1, (e x).2.1)) hok O
      have hend : (e (q - 1)).2.1 + g = (ew_ss g (ew_L e n) ((e x).1, (e x).2.1)).2.2.1 := by rw [S1]
      refine xa_end H B ?_
      rw [hend]
      refine ek_if (nI_leI (by omega) (by omega)) (fun z => nm_r (nI_1 x) (ih (x + 1) m p R pk ps pe pv (by omega) HP ?_)) (fun z => xa_fire H Hs HP G1 (by omega) ho (fun k pk ps pe pv q' R' g1 g2 => nm_r (nI_1 x) (ih (x + 1) k q' R' pk ps pe pv (by omega) g1 ?_)))
      · rw [hR, ew_xl_y ho, List.foldl_append]
        rw [List.foldl_cons, List.foldl_nil, ew_fs_n]
        exact fun z2 => (ew_dcI.mp z2) z
      · rw [g2, hR, ew_xl_y ho, List.foldl_append]
        rw [List.foldl_cons, List.foldl_nil, ew_fs_y (t := fun z => ew_dc (¬ z ≤ W)) (ew_dcI.mpr z)]
    · rw [hR, ew_xl_n ho]
theorem xa_ear (hok : ew_ok g lt W n e) (Hs : ew_srt e n) (hE : ew_aE n e ak aT av) (HP : ew_pa m p pk ps pe pv) (HG : ew_G g (ew_L e n) (ew_L p m)) {post : Int32 → SX → Prop}
    (K : ∀ m' p' R' pk ps pe pv, ew_pa m' p' pk ps pe pv → (ew_L p' m', R') = (ew_xl g e n).foldl (ew_fs 1 (fun z => ew_dc (¬ z ≤ W)) g (ew_L e n)) (ew_L p m, R) → post (R'.2.2.2.2.2 - R.2.2.2.2.2) (nI g, nI lt, nI W, D, nI n, nI m', R'.2.2.2.2.2, ak, aT, av, pk, ps, pe, pv, R'.1, R'.2.1, R'.2.2.1, R'.2.2.2.1, R'.2.2.2.2.1)) : wpX_early post (nI g, nI lt, nI W, D, nI n, nI m, R.2.2.2.2.2, ak, aT, av, pk, ps, pe, pv, R.1, R.2.1, R.2.2.1, R.2.2.2.1, R.2.2.2.2.1) :=
  ⟨n + 1, xa_ear0 hok Hs hE (st0 := (ew_L p m, R)) HG K n 0 m p R pk ps pe pv (by omega) HP rfl⟩
end
end
section
/-! Y: what reads alone -/
section
def ew_yv (g n : Nat) (e : Nat → ew_E) (lb : Nat → Nat) (ek et ev la : Nat → Int32) : Prop := ew_ev g n e ek et ev ∧ (∀ i, i < n → la i = nI (lb i)) ∧ ew_lab g e n lb
variable {g n m i j q x k r : Nat} {l w D c : Int32} {ek et ev la mk pk ps pe pv r1 r2 r3 r4 r5 : Nat → Int32} {e : Nat → ew_E} {lb : Nat → Nat}
theorem ya_st0 (H : ew_yv g n e lb ek et ev la) (hr : r < n) {post : Int32 → Prop} (hp : post (nI (ew_mn (fun j => lb j = r) (fun j => (e j).2.1) n))) :
    ∀ d x, x + d = n → wY_sStart_5 post (nI r) (nI g) l w (nI n) D c (nI m) ek et ev la mk pk ps pe pv r1 r2 r3 r4 r5 (d + 1) (nI (ew_mn (fun j => lb j = r) (fun j => (e j).2.1) x)) (nI x) := by
  obtain ⟨⟨hg, hg2, hn, hE, hb⟩, hl, hlb⟩ := id H
  intro d
  induction d with
  | zero =>
    intro x hx
    have hx' : x = n := by omega
    subst hx'
    exact br_t (nI_le (by omega) (by omega)) hp
  | succ d ih =>
    intro x hx
    have hx1 : x < n := by omega
    have v1 : vp_in (nI x) 32 := vp_in_nI (by omega) (by omega)
    have c1 : (nI x).toNatClampNeg = x := nI_clamp (by omega)
    have u1 := ew_mn_u (p := fun j => lb j = r) (T := fun j => (e j).2.1) x
    have b1 := hb x hx1
    have b2 := (hlb x hx1).1
    have IH := ih (x + 1) (by omega)
    refine br_f (nI_ge (by omega) (by omega)) ⟨v1, ?_⟩
    rw [c1, hl x hx1, (hE x hx1).2.1]
    refine ek_if (nI_eq (by omega) (by omega)) (fun z1 => ⟨v1, ek_if (nI_leI (by omega) (by omega)) (fun z2 => nm_r (nI_1 x) ?_) (fun z2 => ⟨v1, nm_e (nm_r (nI_1 x) ?_)⟩)⟩) (fun z1 => nm_r (nI_1 x) ?_)
    · rw [ew_mn_n (p := fun j => lb j = r) (T := fun j => (e j).2.1) (m := x) (fun z => by have := z.2; omega)] at IH
      exact IH
    · rw [ew_mn_y (p := fun j => lb j = r) (T := fun j => (e j).2.1) (m := x) ⟨z1, by omega⟩] at IH
      exact IH
    · rw [ew_mn_n (p := fun j => lb j = r) (T := fun j => (e j).2.1) (m := x) (fun z => z1 z.1)] at IH
      exact IH
theorem ya_st (H : ew_yv g n e lb ek et ev la) (hr : r < n) (hrr : lb r = r) {post : Int32 → Prop} (hp : post (nI (ew_ks g e n r).2)) : wpY_sStart post (nI g, l, w, nI n, D, c, nI m, ek, et, ev, la, mk, pk, ps, pe, pv, r1, r2, r3, r4, r5) (nI r) := by
  rw [← ew_mnY (fun i hi => (H.1.2.2.2.2 i hi).2) H.2.2 hr hrr] at hp
  exact ⟨n + 1, ya_st0 H hr hp n 0 (by omega)⟩
theorem ew_cmp {t v : Nat} (h1 : t ≤ 1000000) (h2 : v ≤ 1000001) : nI t ≤ nI v - 1 ↔ t + 1 ≤ v := by
  show nI t ≤ nI v - nI 1 ↔ _
  rw [Int32.le_iff_toInt_le, pk_sub_toInt (by omega) (by omega), nI_toInt (by omega)]
  omega
theorem ew_mr_u {p : Nat → Prop} {T : Nat → Nat} : ∀ m, (∀ j, j < m → T j ≤ 1000000) → ew_mr p T m ≤ 1000001 := by
  intro m h
  rcases ew_mr_mem (p := p) (T := T) m with z | ⟨j, hj, _, z⟩
  · omega
  · have := h j hj
    omega
theorem ya_en0 (H : ew_yv g n e lb ek et ev la) (hr : r < n) {post : Int32 → Prop} (hp : post (nI (ew_mr (fun j => lb j = r) (fun j => (e j).2.1) n) - 1 + nI g)) :
    ∀ d x, x + d = n → wY_sEnd_4 post (nI r) (nI g) l w (nI n) D c (nI m) ek et ev la mk pk ps pe pv r1 r2 r3 r4 r5 (d + 1) (nI (ew_mr (fun j => lb j = r) (fun j => (e j).2.1) x) - 1) (nI x) := by
  obtain ⟨⟨hg, hg2, hn, hE, hb⟩, hl, hlb⟩ := id H
  intro d
  induction d with
  | zero =>
    intro x hx
    have hx' : x = n := by omega
    subst hx'
    exact br_t (nI_le (by omega) (by omega)) hp
  | succ d ih =>
    intro x hx
    have hx1 : x < n := by omega
    have v1 : vp_in (nI x) 32 := vp_in_nI (by omega) (by omega)
    have c1 : (nI x).toNatClampNeg = x := nI_clamp (by omega)
    have u1 := ew_mr_u (p := fun j => lb j = r) (T := fun j => (e j).2.1) x (fun j hj => (hb j (by omega)).2)
    have b1 := hb x hx1
    have b2 := (hlb x hx1).1
    have IH := ih (x + 1) (by omega)
    refine br_f (nI_ge (by omega) (by omega)) ⟨v1, ?_⟩
    rw [c1, hl x hx1, (hE x hx1).2.1]
    refine ek_if (nI_eq (by omega) (by omega)) (fun z1 => ⟨v1, ek_if (ew_cmp (by omega) u1) (fun z2 => nm_r (nI_1 x) ?_) (fun z2 => ⟨v1, nm_e (nm_r (nI_1 x) ?_)⟩)⟩) (fun z1 => nm_r (nI_1 x) ?_)
    · rw [ew_mr_n (p := fun j => lb j = r) (T := fun j => (e j).2.1) (m := x) (fun z => by have := z.2; omega)] at IH
      exact IH
    · rw [ew_mr_y (p := fun j => lb j = r) (T := fun j => (e j).2.1) (m := x) ⟨z1, by omega⟩, nI_pred] at IH
      exact IH
    · rw [ew_mr_n (p := fun j => lb j = r) (T := fun j => (e j).2.1) (m := x) (fun z => z1 z.1)] at IH
      exact IH
theorem ya_en (H : ew_yv g n e lb ek et ev la) (hr : r < n) (hrr : lb r = r) {post : Int32 → Prop} (hp : post (nI (ew_ss g (ew_L e n) (ew_ks g e n r)).2.2.1)) : wpY_sEnd post (nI g, l, w, nI n, D, c, nI m, ek, et, ev, la, mk, pk, ps, pe, pv, r1, r2, r3, r4, r5) (nI r) := by
  obtain ⟨b, h1, h2⟩ := ew_mrY H.2.2 hr hrr
  refine ⟨n + 1, ?_⟩
  have := ya_en0 (l := l) (w := w) (D := D) (m := m) (c := c) (mk := mk) (pk := pk) (ps := ps) (pe := pe) (pv := pv) (r1 := r1) (r2 := r2) (r3 := r3) (r4 := r4) (r5 := r5) H hr (post := post) (by rw [h1, nI_pred, nI_add, ← h2]; exact hp) n 0 (by omega)
  exact this
theorem ya_sm0 (H : ew_yv g n e lb ek et ev la) (hr : r < n) {post : Int32 → Prop} (hp : post (ew_su (fun j => ew_dc (lb j = r)) (fun j => (e j).2.2) n)) :
    ∀ d x, x + d = n → wY_sSum_4 post (nI r) (nI g) l w (nI n) D c (nI m) ek et ev la mk pk ps pe pv r1 r2 r3 r4 r5 (d + 1) (ew_su (fun j => ew_dc (lb j = r)) (fun j => (e j).2.2) x) (nI x) := by
  obtain ⟨⟨hg, hg2, hn, hE, hb⟩, hl, hlb⟩ := id H
  intro d
  induction d with
  | zero =>
    intro x hx
    have hx' : x = n := by omega
    subst hx'
    exact br_t (nI_le (by omega) (by omega)) hp
  | succ d ih =>
    intro x hx
    have hx1 : x < n := by omega
    have v1 : vp_in (nI x) 32 := vp_in_nI (by omega) (by omega)
    have c1 : (nI x).toNatClampNeg = x := nI_clamp (by omega)
    have b2 := (hlb x hx1).1
    have IH := ih (x + 1) (by omega)
    rw [ew_su] at IH
    refine br_f (nI_ge (by omega) (by omega)) ⟨v1, ?_⟩
    rw [c1, hl x hx1, (hE x hx1).2.2]
    refine ek_if (nI_eq (by omega) (by omega)) (fun z1 => ⟨v1, nm_e (nm_r (nI_1 x) ?_)⟩) (fun z1 => nm_r (nI_1 x) ?_)
    · rw [if_pos (ew_dcI.mpr z1)] at IH
      exact IH
    · rw [if_neg (fun z => z1 (ew_dcI.mp z))] at IH
      exact IH
theorem ya_sm (H : ew_yv g n e lb ek et ev la) (hr : r < n) (hrr : lb r = r) {post : Int32 → Prop} (hp : post (ew_ss g (ew_L e n) (ew_ks g e n r)).2.2.2) : wpY_sSum post (nI g, l, w, nI n, D, c, nI m, ek, et, ev, la, mk, pk, ps, pe, pv, r1, r2, r3, r4, r5) (nI r) := by
  rw [← ew_smY H.2.2 hr hrr] at hp
  exact ⟨n + 1, ya_sm0 H hr hp n 0 (by omega)⟩
theorem ya_ct0 (H : ew_yv g n e lb ek et ev la) (hr : r < n) {post : Int32 → Prop} (hp : post (nI (ew_ct (fun j => ew_dc (lb j = r)) n))) :
    ∀ d x, x + d = n → wY_sCnt_4 post (nI r) (nI g) l w (nI n) D c (nI m) ek et ev la mk pk ps pe pv r1 r2 r3 r4 r5 (d + 1) (nI (ew_ct (fun j => ew_dc (lb j = r)) x)) (nI x) := by
  obtain ⟨⟨hg, hg2, hn, hE, hb⟩, hl, hlb⟩ := id H
  intro d
  induction d with
  | zero =>
    intro x hx
    have hx' : x = n := by omega
    subst hx'
    exact br_t (nI_le (by omega) (by omega)) hp
  | succ d ih =>
    intro x hx
    have hx1 : x < n := by omega
    have v1 : vp_in (nI x) 32 := vp_in_nI (by omega) (by omega)
    have c1 : (nI x).toNatClampNeg = x := nI_clamp (by omega)
    have b2 := (hlb x hx1).1
    have IH := ih (x + 1) (by omega)
    rw [ew_ct] at IH
    refine br_f (nI_ge (by omega) (by omega)) ⟨v1, ?_⟩
    rw [c1, hl x hx1]
    refine ek_if (nI_eq (by omega) (by omega)) (fun z1 => nm_r (nI_1 _) (nm_r (nI_1 x) ?_)) (fun z1 => nm_r (nI_1 x) ?_)
    · rw [if_pos (ew_dcI.mpr z1)] at IH
      exact IH
    · rw [if_neg (fun z => z1 (ew_dcI.mp z))] at IH
      exact IH
theorem ya_ct (H : ew_yv g n e lb ek et ev la) (hr : r < n) (hrr : lb r = r) {post : Int32 → Prop} (hp : post (nI (ew_sc g (ew_L e n) (ew_ks g e n r)))) : wpY_sCnt post (nI g, l, w, nI n, D, c, nI m, ek, et, ev, la, mk, pk, ps, pe, pv, r1, r2, r3, r4, r5) (nI r) := by
  rw [← ew_scY H.2.2 hr hrr] at hp
  exact ⟨n + 1, ya_ct0 H hr hp n 0 (by omega)⟩
theorem ya_sc0 (H : ew_yv g n e lb ek et ev la) {post : Int32 → Prop} (hp : post (nI (ew_ct (fun j => ew_dc (lb j = j)) n))) :
    ∀ d x, x + d = n → wY_sessionCount_4 post (nI g) l w (nI n) D c (nI m) ek et ev la mk pk ps pe pv r1 r2 r3 r4 r5 (d + 1) (nI (ew_ct (fun j => ew_dc (lb j = j)) x)) (nI x) := by
  obtain ⟨⟨hg, hg2, hn, hE, hb⟩, hl, hlb⟩ := id H
  intro d
  induction d with
  | zero =>
    intro x hx
    have hx' : x = n := by omega
    subst hx'
    exact br_t (nI_le (by omega) (by omega)) hp
  | succ d ih =>
    intro x hx
    have hx1 : x < n := by omega
    have v1 : vp_in (nI x) 32 := vp_in_nI (by omega) (by omega)
    have c1 : (nI x).toNatClampNeg = x := nI_clamp (by omega)
    have b2 := (hlb x hx1).1
    have IH := ih (x + 1) (by omega)
    rw [ew_ct] at IH
    refine br_f (nI_ge (by omega) (by omega)) ⟨v1, ?_⟩
    rw [c1, hl x hx1]
    refine ek_if (nI_eq (by omega) (by omega)) (fun z1 => nm_r (nI_1 _) (nm_r (nI_1 x) ?_)) (fun z1 => nm_r (nI_1 x) ?_)
    · rw [if_pos (ew_dcI.mpr z1)] at IH
      exact IH
    · rw [if_neg (fun z => z1 (ew_dcI.mp z))] at IH
      exact IH
theorem ya_sc (H : ew_yv g n e lb ek et ev la) {post : Int32 → Prop} (hp : post (nI (ew_ct (fun j => ew_dc (lb j = j)) n))) : wpY_sessionCount post (nI g, l, w, nI n, D, c, nI m, ek, et, ev, la, mk, pk, ps, pe, pv, r1, r2, r3, r4, r5) :=
  ⟨n + 1, ya_sc0 H hp n 0 (by omega)⟩
theorem ew_ksb (H : ew_yv g n e lb ek et ev la) (hr : r < n) : (ew_ks g e n r).2 ≤ 1000000 := by
  obtain ⟨j, hj, _, h2⟩ := ew_ML.mp (ew_ks_O (g := g) (e := e) hr).1
  have := (H.1.2.2.2.2 j hj).2
  omega
theorem ya_rk0 (H : ew_yv g n e lb ek et ev la) (hr : r < n) {post : Int32 → Prop} (hp : post (nI (ew_ct (fun q => ew_dc (lb q = q ∧ ew_lt (ew_ks g e n q) (ew_ks g e n r))) n))) :
    ∀ d x, x + d = n → wY_rank_11 post (nI r) (nI (ew_ks g e n r).2) (nI g) l w (nI n) D c (nI m) ek et ev la mk pk ps pe pv r1 r2 r3 r4 r5 (d + 1) (nI (ew_ct (fun q => ew_dc (lb q = q ∧ ew_lt (ew_ks g e n q) (ew_ks g e n r))) x)) (nI x) := by
  obtain ⟨⟨hg, hg2, hn, hE, hb⟩, hl, hlb⟩ := id H
  intro d
  induction d with
  | zero =>
    intro x hx
    have hx' : x = n := by omega
    subst hx'
    exact br_t (nI_le (by omega) (by omega)) hp
  | succ d ih =>
    intro x hx
    have hx1 : x < n := by omega
    have v1 : vp_in (nI x) 32 := vp_in_nI (by omega) (by omega)
    have c1 : (nI x).toNatClampNeg = x := nI_clamp (by omega)
    have v2 : vp_in (nI r) 32 := vp_in_nI (by omega) (by omega)
    have c2 : (nI r).toNatClampNeg = r := nI_clamp (by omega)
    have b2 := (hlb x hx1).1
    have b3 := hb x hx1
    have b4 := hb r hr
    have b5 := ew_ksb H hr
    have b6 := ew_ksb H hx1
    have IH := ih (x + 1) (by omega)
    rw [ew_ct] at IH
    have ltI : ew_lt (ew_ks g e n x) (ew_ks g e n r) ↔ ((e x).1 < (e r).1 ∨ ((e x).1 = (e r).1 ∧ (ew_ks g e n x).2 < (ew_ks g e n r).2)) := Iff.rfl
    refine br_f (nI_ge (by omega) (by omega)) ⟨v1, ?_⟩
    rw [c1, c2, hl x hx1, (hE x hx1).1, (hE r hr).1]
    refine ek_if (nI_eq (by omega) (by omega)) (fun z1 => ek_if (nI_eq (by omega) (by omega)) (fun z2 => nm_r (nI_1 x) ?_) (fun z2 => ⟨v1, v2, ek_if (nI_leI (by omega) (by omega)) (fun z3 => ⟨v1, v2, ek_if (nI_eq (by omega) (by omega)) (fun z4 => ya_st H hx1 z1 (ek_if (nI_leI (by omega) (by omega)) (fun z5 => nm_r (nI_1 x) ?_) (fun z5 => nm_r (nI_1 _) (nm_r (nI_1 x) ?_)))) (fun z4 => nm_r (nI_1 x) ?_)⟩) (fun z3 => nm_r (nI_1 _) (nm_r (nI_1 x) ?_))⟩)) (fun z1 => nm_r (nI_1 x) ?_)
    · rw [if_neg] at IH
      · exact IH
      · intro z
        have := (ew_dcI.mp z).2
        rw [z2] at this
        exact ew_lt_as this this
    · rw [if_neg (fun z => by have := ltI.mp (ew_dcI.mp z).2; omega)] at IH
      exact IH
    · rw [if_pos (ew_dcI.mpr ⟨z1, ltI.mpr (by omega)⟩)] at IH
      exact IH
    · rw [if_neg (fun z => by have := ltI.mp (ew_dcI.mp z).2; omega)] at IH
      exact IH
    · rw [if_pos (ew_dcI.mpr ⟨z1, ltI.mpr (by omega)⟩)] at IH
      exact IH
    · rw [if_neg (fun z => z1 (ew_dcI.mp z).1)] at IH
      exact IH
theorem ya_rk (H : ew_yv g n e lb ek et ev la) (hr : r < n) (hrr : lb r = r) {post : Int32 → Prop} (hp : post (nI (ew_ct (fun q => ew_dc (lb q = q ∧ ew_lt (ew_ks g e n q) (ew_ks g e n r))) n))) : wpY_rank post (nI g, l, w, nI n, D, c, nI m, ek, et, ev, la, mk, pk, ps, pe, pv, r1, r2, r3, r4, r5) (nI r) :=
  ya_st H hr hrr ⟨n + 1, ya_rk0 H hr hp n 0 (by omega)⟩
theorem ya_rp0 (H : ew_yv g n e lb ek et ev la) (hi : i < n) {post : Int32 → Prop} (hp : ∀ r, r < n → lb r = r → ew_ct (fun q => ew_dc (lb q = q ∧ ew_lt (ew_ks g e n q) (ew_ks g e n r))) n = i → post (nI r))
    (hx : ∃ r, r < n ∧ lb r = r ∧ ew_ct (fun q => ew_dc (lb q = q ∧ ew_lt (ew_ks g e n q) (ew_ks g e n r))) n = i) :
    ∀ d x, x + d = n → (∀ r, r < x → lb r = r → ew_ct (fun q => ew_dc (lb q = q ∧ ew_lt (ew_ks g e n q) (ew_ks g e n r))) n ≠ i) → wY_repAt_2 post (nI i) (nI g) l w (nI n) D c (nI m) ek et ev la mk pk ps pe pv r1 r2 r3 r4 r5 (d + 1) (nI x) := by
  obtain ⟨⟨hg, hg2, hn, hE, hb⟩, hl, hlb⟩ := id H
  intro d
  induction d with
  | zero =>
    intro x h0 h1
    obtain ⟨r, a1, a2, a3⟩ := hx
    exact absurd a3 (h1 r (by omega) a2)
  | succ d ih =>
    intro x h0 h1
    have hx1 : x < n := by omega
    have v1 : vp_in (nI x) 32 := vp_in_nI (by omega) (by omega)
    have c1 : (nI x).toNatClampNeg = x := nI_clamp (by omega)
    have b2 := (hlb x hx1).1
    have b3 := ew_ct_le (fun q => ew_dc (lb q = q ∧ ew_lt (ew_ks g e n q) (ew_ks g e n x))) n
    refine br_f (nI_ge (by omega) (by omega)) ⟨v1, ?_⟩
    rw [c1, hl x hx1]
    refine ek_if (nI_eq (by omega) (by omega)) (fun z1 => ya_rk H hx1 z1 (ek_if (nI_eq (by omega) (by omega)) (fun z2 => hp x hx1 z1 z2) (fun z2 => nm_r (nI_1 x) (ih (x + 1) (by omega) (fun r a b => ?_))))) (fun z1 => nm_r (nI_1 x) (ih (x + 1) (by omega) (fun r a b => ?_)))
    · by_cases f : r = x
      · subst f
        exact z2
      · exact h1 r (by omega) b
    · by_cases f : r = x
      · subst f
        exact absurd b z1
      · exact h1 r (by omega) b
theorem ya_rp (H : ew_yv g n e lb ek et ev la) {f : Nat → ew_E} (hp : (ew_L f n).Perm (ew_L e n)) (hs : ew_srt f n) (hi : i < (ew_xl g f n).length) {post : Int32 → Prop} (K : ∀ r, r < n → lb r = r → (ew_xl g f n)[i]? = some (ew_ks g e n r) → post (nI r)) : wpY_repAt post (nI g, l, w, nI n, D, c, nI m, ek, et, ev, la, mk, pk, ps, pe, pv, r1, r2, r3, r4, r5) (nI i) := by
  have hg := H.1.1
  have hle : (ew_xl g f n).length ≤ n := by
    rw [ew_xl_l]
    exact ew_ct_le _ n
  exact ⟨n + 1, ya_rp0 H (by omega) (fun r a b z => K r a b (ew_rankx hp hs hg H.2.2 a b z)) (ew_repx hp hs hg H.2.2 hi) n 0 (by omega) (fun r a => by omega)⟩
end
end
section
/-! Y: relabelling -/
section
variable {g n m i j q x k r dd : Nat} {l w D c : Int32} {ek et ev la mk pk ps pe pv r1 r2 r3 r4 r5 : Nat → Int32} {e : Nat → ew_E} {lb lb0 : Nat → Nat}
theorem yb_41 (H : ew_ev g n e ek et ev) (hl : ∀ i, i < n → la i = nI (lb i)) (hb : ∀ i, i < n → lb i < n) (hi : i < n) (hj : j < n) (hd : dd ≤ 1000000) {post : SY → Prop} {J2 J12 : Int32 → (Nat → Int32) → (Nat → Int32) → (Nat → Int32) → (Nat → Int32) → (Nat → Int32) → (Nat → Int32) → (Nat → Int32) → (Nat → Int32) → (Nat → Int32) → (Nat → Int32) → (Nat → Int32) → (Nat → Int32) → (Nat → Int32) → (Nat → Int32) → Prop}
    (h0 : ¬ ((e i).1 = (e j).1 ∧ dd < g ∧ lb j < lb i) → J12 (nI (j + 1)) ek et ev la mk pk ps pe pv r1 r2 r3 r4 r5) (h1 : (e i).1 = (e j).1 → dd < g → lb j < lb i → J12 (nI (j + 1)) ek et ev (upd la i (la j)) mk pk ps pe pv r1 r2 r3 r4 r5) : wY_relaxOnce_41 post J2 J12 (nI i) (nI j) (nI dd) (nI g) l w (nI n) D c (nI m) ek et ev la mk pk ps pe pv r1 r2 r3 r4 r5 := by
  obtain ⟨hg, hg2, hn, hE, hbd⟩ := id H
  have vi : vp_in (nI i) 32 := vp_in_nI (by omega) (by omega)
  have ci : (nI i).toNatClampNeg = i := nI_clamp (by omega)
  have vj : vp_in (nI j) 32 := vp_in_nI (by omega) (by omega)
  have cj : (nI j).toNatClampNeg = j := nI_clamp (by omega)
  have b1 := hbd i hi
  have b2 := hbd j hj
  have b3 := hb i hi
  have b4 := hb j hj
  refine ⟨vi, vj, ?_⟩
  rw [ci, cj, (hE i hi).1, (hE j hj).1]
  refine ek_if (nI_eq (by omega) (by omega)) (fun z1 => ek_if (nI_leI (by omega) (by omega)) (fun z2 => nm_r (nI_1 j) (h0 (fun z => by have := z.2.1; omega))) (fun z2 => ⟨vj, vi, ?_⟩)) (fun z1 => nm_r (nI_1 j) (h0 (fun z => z1 z.1)))
  have hle : la i ≤ la j ↔ lb i ≤ lb j := by
    rw [hl i hi, hl j hj]
    exact nI_leI (by omega) (by omega)
  exact ek_if hle (fun z3 => nm_r (nI_1 j) (h0 (fun z => by have := z.2.2; omega))) (fun z3 => ⟨vj, vi, nm_e (nm_r (nI_1 j) (h1 z1 (by omega) (by omega)))⟩)
theorem yb_in0 (H : ew_ev g n e ek et ev) (hi : i < n) {post : SY → Prop} {J2 : Int32 → (Nat → Int32) → (Nat → Int32) → (Nat → Int32) → (Nat → Int32) → (Nat → Int32) → (Nat → Int32) → (Nat → Int32) → (Nat → Int32) → (Nat → Int32) → (Nat → Int32) → (Nat → Int32) → (Nat → Int32) → (Nat → Int32) → (Nat → Int32) → Prop}
    (K : ∀ la lb, (∀ i, i < n → la i = nI (lb i)) → ew_i1 g e n lb → (∀ x, x < n → lb x ≤ lb0 x) → (∀ i' j', i' < i + 1 → j' < n → ew_lnk g e i' j' → lb i' ≤ lb0 j') → J2 (nI (i + 1)) ek et ev la mk pk ps pe pv r1 r2 r3 r4 r5) :
    ∀ d j la lb, j + d = n → (∀ i, i < n → la i = nI (lb i)) → ew_i1 g e n lb → (∀ x, x < n → lb x ≤ lb0 x) → (∀ i' j', i' < i → j' < n → ew_lnk g e i' j' → lb i' ≤ lb0 j') → (∀ j', j' < j → ew_lnk g e i j' → lb i ≤ lb0 j') → wY_relaxOnce_12 post J2 (nI i) (nI g) l w (nI n) D c (nI m) (d + 1) (nI j) ek et ev la mk pk ps pe pv r1 r2 r3 r4 r5 := by
  obtain ⟨hg, hg2, hn, hE, hbd⟩ := id H
  intro d
  induction d with
  | zero =>
    intro j la lb hj h1 h2 h3 h4 h5
    refine br_t (nI_le (by omega) (by omega)) (nm_r (nI_1 i) (K la lb h1 h2 h3 (fun i' j' a b z => ?_)))
    by_cases f : i' = i
    · rw [f] at z ⊢
      exact h5 j' (by omega) z
    · exact h4 i' j' (by omega) b z
  | succ d ih =>
    intro j la lb hj h1 h2 h3 h4 h5
    have hj1 : j < n := by omega
    have vi : vp_in (nI i) 32 := vp_in_nI (by omega) (by omega)
    have ci : (nI i).toNatClampNeg = i := nI_clamp (by omega)
    have vj : vp_in (nI j) 32 := vp_in_nI (by omega) (by omega)
    have cj : (nI j).toNatClampNeg = j := nI_clamp (by omega)
    have b1 := hbd i hi
    have b2 := hbd j hj1
    have step : ∀ dd, dd ≤ 1000000 → (dd < g ↔ ((e i).2.1 < (e j).2.1 + g ∧ (e j).2.1 < (e i).2.1 + g)) → wY_relaxOnce_41 post J2 (wY_relaxOnce_12 post J2 (nI i) (nI g) l w (nI n) D c (nI m) (d + 1)) (nI i) (nI j) (nI dd) (nI g) l w (nI n) D c (nI m) ek et ev la mk pk ps pe pv r1 r2 r3 r4 r5 := by
      intro dd hdd hiff
      refine yb_41 H h1 (fun i hi => (h2 i hi).1) hi hj1 hdd (fun z => ih (j + 1) la lb (by omega) h1 h2 h3 h4 (fun j' a b => ?_)) (fun z1 z2 z3 => ih (j + 1) _ (fun x => if x = i then lb j else lb x) (by omega) (fun x hx => ?_) (fun x hx => ?_) (fun x hx => ?_) (fun i' j' a b z => ?_) (fun j' a b => ?_))
      · by_cases f : j' = j
        · rw [f] at b ⊢
          have h6 := h3 j hj1
          have h7 : ¬ lb j < lb i := fun y => z ⟨b.1, hiff.mpr b.2, y⟩
          omega
        · exact h5 j' (by omega) b
      · skip
        by_cases f : x = i
        · rw [f, pk_us, if_pos rfl]
          exact h1 j hj1
        · rw [pk_un f, if_neg f]
          exact h1 x hx
      · dsimp only
        by_cases f : x = i
        · rw [f, if_pos rfl]
          exact ⟨(h2 j hj1).1, ew_si_t (ew_lnk_si hi hj1 ⟨z1, hiff.mp z2⟩) (h2 j hj1).2⟩
        · rw [if_neg f]
          exact h2 x hx
      · skip
        by_cases f : x = i
        · rw [f, if_pos rfl]
          have := h3 i hi
          omega
        · rw [if_neg f]
          exact h3 x hx
      · skip
        rw [if_neg (by omega)]
        exact h4 i' j' a b z
      · skip
        rw [if_pos rfl]
        by_cases f : j' = j
        · rw [f]
          exact h3 j hj1
        · have := h5 j' (by omega) b
          omega
    refine br_f (nI_ge (by omega) (by omega)) ⟨vi, vj, ?_⟩
    rw [ci, cj, (hE i hi).2.1, (hE j hj1).2.1]
    by_cases f : (e i).2.1 < (e j).2.1
    · exact nm_e (br_f (Int32.not_le.mpr (pk_sneg (by omega) f)) (nm_r (e' := nI ((e j).2.1 - (e i).2.1)) (by rw [Int32.neg_sub, pk_sub (by omega)]) (step _ (by omega) (by omega))))
    · exact nm_r (pk_sub (by omega)) (br_t (nI_pos' (by omega)) (step _ (by omega) (by omega)))
theorem yb_out0 (H : ew_ev g n e ek et ev) {post : SY → Prop} (K : ∀ la lb, (∀ i, i < n → la i = nI (lb i)) → ew_ps g e n lb0 lb → post (nI g, l, w, nI n, D, c, nI m, ek, et, ev, la, mk, pk, ps, pe, pv, r1, r2, r3, r4, r5)) :
    ∀ d i la lb, i + d = n → (∀ i, i < n → la i = nI (lb i)) → ew_i1 g e n lb → (∀ x, x < n → lb x ≤ lb0 x) → (∀ i' j', i' < i → j' < n → ew_lnk g e i' j' → lb i' ≤ lb0 j') → wY_relaxOnce_2 post (nI g) l w (nI n) D c (nI m) (d + 1) (nI i) ek et ev la mk pk ps pe pv r1 r2 r3 r4 r5 := by
  have hn := H.2.2.1
  intro d
  induction d with
  | zero =>
    intro i la lb hi h1 h2 h3 h4
    exact br_t (nI_le (by omega) (by omega)) (K la lb h1 ⟨h2, h3, fun i' j' a b z => h4 i' j' (by omega) b z⟩)
  | succ d ih =>
    intro i la lb hi h1 h2 h3 h4
    exact br_f (nI_ge (by omega) (by omega)) ⟨n + 1, yb_in0 (lb0 := lb0) H (by omega) (fun la lb g1 g2 g3 g4 => ih (i + 1) la lb (by omega) g1 g2 g3 g4) n 0 la lb (by omega) h1 h2 h3 h4 (fun j' a => by omega)⟩
theorem yb_relax (H : ew_ev g n e ek et ev) {post : SY → Prop} (h1 : ∀ i, i < n → la i = nI (lb0 i)) (h2 : ew_i1 g e n lb0) (K : ∀ la lb, (∀ i, i < n → la i = nI (lb i)) → ew_ps g e n lb0 lb → post (nI g, l, w, nI n, D, c, nI m, ek, et, ev, la, mk, pk, ps, pe, pv, r1, r2, r3, r4, r5)) : wpY_relaxOnce post (nI g, l, w, nI n, D, c, nI m, ek, et, ev, la, mk, pk, ps, pe, pv, r1, r2, r3, r4, r5) :=
  ⟨n + 1, yb_out0 H K n 0 la lb0 (by omega) h1 h2 (fun x _ => Nat.le_refl _) (fun i' j' a => by omega)⟩
theorem yb_rel1 (H : ew_ev g n e ek et ev) {post : SY → Prop} (K : ∀ la lb, (∀ i, i < n → la i = nI (lb i)) → ew_lab g e n lb → post (nI g, l, w, nI n, D, c, nI m, ek, et, ev, la, mk, pk, ps, pe, pv, r1, r2, r3, r4, r5)) :
    ∀ d p la lb, p + d = n + 1 → (∀ i, i < n → la i = nI (lb i)) → ew_Q g e n p lb → wY_relabel_25 post (d + 1) (nI p) (nI g) l w (nI n) D c (nI m) ek et ev la mk pk ps pe pv r1 r2 r3 r4 r5 := by
  have hn := H.2.2.1
  intro d
  induction d with
  | zero =>
    intro p la lb hp h1 h2
    exact br_t (nI_lt (by omega) (by omega)) (K la lb h1 (ew_Qe h2 (by omega)))
  | succ d ih =>
    intro p la lb hp h1 h2
    exact br_f (nI_nlt (by omega) (by omega)) (yb_relax H h1 h2.1 (fun la lb g1 g2 => nm_r (nI_1 p) (ih (p + 1) la lb (by omega) g1 (ew_Qs H.1 h2 g2))))
theorem yb_rel0 (H : ew_ev g n e ek et ev) {post : SY → Prop} (K : ∀ la lb, (∀ i, i < n → la i = nI (lb i)) → ew_lab g e n lb → post (nI g, l, w, nI n, D, c, nI m, ek, et, ev, la, mk, pk, ps, pe, pv, r1, r2, r3, r4, r5)) :
    ∀ d x la, x + d = n → (∀ i, i < x → la i = nI i) → wY_relabel_2 post (nI g) l w (nI n) D c (nI m) (d + 1) (nI x) ek et ev la mk pk ps pe pv r1 r2 r3 r4 r5 := by
  have hn := H.2.2.1
  intro d
  induction d with
  | zero =>
    intro x la hx h1
    exact br_t (nI_le (by omega) (by omega)) ⟨n + 1 + 1, yb_rel1 H K (n + 1) 0 la (fun i => i) (by omega) (fun i hi => h1 i (by omega)) (ew_Q0 (fun i _ => rfl))⟩
  | succ d ih =>
    intro x la hx h1
    refine br_f (nI_ge (by omega) (by omega)) ⟨vp_in_nI (by omega) (by omega), nm_r (e' := upd la x (nI x)) (by rw [nI_clamp (by omega)]) (nm_r (nI_1 x) (ih (x + 1) _ (by omega) (fun i hi => ?_)))⟩
    by_cases f : i = x
    · rw [f, pk_us]
    · rw [pk_un f]
      exact h1 i (by omega)
theorem yb_rel (H : ew_ev g n e ek et ev) {post : SY → Prop} (K : ∀ la lb, (∀ i, i < n → la i = nI (lb i)) → ew_lab g e n lb → post (nI g, l, w, nI n, D, c, nI m, ek, et, ev, la, mk, pk, ps, pe, pv, r1, r2, r3, r4, r5)) : wpY_relabel post (nI g, l, w, nI n, D, c, nI m, ek, et, ev, la, mk, pk, ps, pe, pv, r1, r2, r3, r4, r5) :=
  ⟨n + 1, yb_rel0 H K n 0 la (by omega) (fun i a => by omega)⟩
end
end
section
/-! Y: firing, dropping panes -/
section
variable {g n m i j x k r b : Nat} {l w D c kd : Int32} {ek et ev la mk pk ps pe pv r1 r2 r3 r4 r5 : Nat → Int32} {e : Nat → ew_E} {lb : Nat → Nat} {q : Nat → ew_P} {s y : ew_P} {R : ew_R}
theorem yp_bel (hi : i < 32) (h : ew_at i y pk ps pe pv) (hy : ew_xb y) (hs : ew_xb s) {post : Int32 → Prop} (h1 : ew_bl s y → post 1) (h0 : ¬ ew_bl s y → post 0) : wpY_belongs post (nI g, l, w, nI n, D, c, nI m, ek, et, ev, la, mk, pk, ps, pe, pv, r1, r2, r3, r4, r5) (nI i) (nI s.1) (nI s.2.1) (nI s.2.2.1) := by
  have v1 : vp_in (nI i) 32 := vp_in_nI hi (by omega)
  have c1 : (nI i).toNatClampNeg = i := nI_clamp (by omega)
  obtain ⟨a1, a2, a3, _⟩ := h
  obtain ⟨b1, b2, b3⟩ := hy
  obtain ⟨d1, d2, d3⟩ := hs
  refine ⟨v1, ?_⟩
  rw [c1, a1, a2, a3]
  refine ek_if (nI_eq (by omega) (by omega)) (fun z1 => ⟨v1, ek_if (nI_ltI (by omega) (by omega)) (fun z2 => h0 (fun z => ?_)) (fun z2 => ⟨v1, ek_if (nI_ltI (by omega) (by omega)) (fun z3 => h0 (fun z => ?_)) (fun z3 => h1 ⟨z1, by omega, by omega⟩)⟩)⟩) (fun z1 => h0 (fun z => z1 z.1))
  · have := z.2.1
    omega
  · have := z.2.2
    omega
theorem yp_emit {a b d f : Int32} {post : SY → Prop} (h : post (nI g, l, w, nI n, D, (ew_em R kd a b d f).2.2.2.2.2, nI m, ek, et, ev, la, mk, pk, ps, pe, pv, (ew_em R kd a b d f).1, (ew_em R kd a b d f).2.1, (ew_em R kd a b d f).2.2.1, (ew_em R kd a b d f).2.2.2.1, (ew_em R kd a b d f).2.2.2.2.1)) : wpY_emit post (nI g, l, w, nI n, D, R.2.2.2.2.2, nI m, ek, et, ev, la, mk, pk, ps, pe, pv, R.1, R.2.1, R.2.2.1, R.2.2.2.1, R.2.2.2.2.1) kd a b d f := by
  have v : vp_in (R.2.2.2.2.2 &&& 63) 64 := pk_andIn _ 6 (by decide) (by decide)
  exact nm_e ⟨v, nm_e ⟨v, nm_e ⟨v, nm_e ⟨v, nm_e ⟨v, nm_e (nm_e h)⟩⟩⟩⟩⟩
theorem yp_rmv (H : ew_pa (m + 1) q pk ps pe pv) (hb : b < m + 1) {post : SY → Prop}
    (K : ∀ pk ps pe pv q', ew_pa m q' pk ps pe pv → (ew_L q (m + 1)).Perm (q b :: ew_L q' m) → (∀ j, j ≠ b → q' j = q j) → post (nI g, l, w, nI n, D, c, nI m, ek, et, ev, la, mk, pk, ps, pe, pv, r1, r2, r3, r4, r5)) : wpY_removePane post (nI g, l, w, nI n, D, c, nI (m + 1), ek, et, ev, la, mk, pk, ps, pe, pv, r1, r2, r3, r4, r5) (nI b) := by
  have hm := H.1
  have vb : vp_in (nI b) 32 := vp_in_nI (by omega) (by omega)
  have cb : (nI b).toNatClampNeg = b := nI_clamp (by omega)
  have vm : vp_in (nI m) 32 := vp_in_nI (by omega) (by omega)
  have cm : (nI m).toNatClampNeg = m := nI_clamp (by omega)
  refine br_f (nI_pos (by omega)) (br_t (nI_lt hb (by omega)) (nm_r (nI_pred m) ⟨vm, vb, nm_r (e' := upd pk b (pk m)) (by rw [cm, cb]) ⟨vm, vb, nm_r (e' := upd ps b (ps m)) (by rw [cm, cb]) ⟨vm, vb, nm_r (e' := upd pe b (pe m)) (by rw [cm, cb]) ⟨vm, vb, nm_r (e' := upd pv b (pv m)) (by rw [cm, cb]) (K _ _ _ _ (fun j => if j = b then q m else q j) ⟨by omega, fun j hj => ?_⟩ (ew_rmv q hb) (fun j hj => if_neg hj))⟩⟩⟩⟩))
  have am := H.2 m (by omega)
  dsimp only
  by_cases f : j = b
  · rw [f, if_pos rfl]
    exact ⟨ew_at_s am.1.1 am.1.2.1 am.1.2.2.1 am.1.2.2.2, am.2⟩
  · rw [if_neg f]
    exact ⟨ew_at_n f (H.2 j (by omega)).1, (H.2 j (by omega)).2⟩
theorem yp_244 (H : ew_pa m q pk ps pe pv) (hs : ew_xb s) {post : SY → Prop}
    (K : ∀ k pk ps pe pv q', ew_pa k q' pk ps pe pv → ew_L q' k = (if m < 32 then ew_L q m ++ [s] else ew_L q m) → post (nI g, l, w, nI n, D, (ew_em R kd (nI s.1) (nI s.2.1) (nI s.2.2.1) s.2.2.2).2.2.2.2.2, nI k, ek, et, ev, la, mk, pk, ps, pe, pv, (ew_em R kd (nI s.1) (nI s.2.1) (nI s.2.2.1) s.2.2.2).1, (ew_em R kd (nI s.1) (nI s.2.1) (nI s.2.2.1) s.2.2.2).2.1, (ew_em R kd (nI s.1) (nI s.2.1) (nI s.2.2.1) s.2.2.2).2.2.1, (ew_em R kd (nI s.1) (nI s.2.1) (nI s.2.2.1) s.2.2.2).2.2.2.1, (ew_em R kd (nI s.1) (nI s.2.1) (nI s.2.2.1) s.2.2.2).2.2.2.2.1)) : wY_fire_244 post kd (nI s.1) (nI s.2.1) (nI s.2.2.1) s.2.2.2 (nI g) l w (nI n) D R.2.2.2.2.2 (nI m) ek et ev la mk pk ps pe pv R.1 R.2.1 R.2.2.1 R.2.2.2.1 R.2.2.2.2.1 := by
  have hm := H.1
  have cm : (nI m).toNatClampNeg = m := nI_clamp (by omega)
  refine yp_emit (ek_if (nI_leI (a := 32) (by omega) (by omega)) (fun z => K m pk ps pe pv q H (by rw [if_neg (by omega)])) (fun z => ?_))
  have vm : vp_in (nI m) 32 := vp_in_nI (by omega) (by omega)
  refine ⟨vm, nm_r (e' := upd pk m (nI s.1)) (by rw [cm]) ⟨vm, nm_r (e' := upd ps m (nI s.2.1)) (by rw [cm]) ⟨vm, nm_r (e' := upd pe m (nI s.2.2.1)) (by rw [cm]) ⟨vm, nm_r (e' := upd pv m s.2.2.2) (by rw [cm]) (nm_r (nI_1 m) (K (m + 1) _ _ _ _ (fun j => if j = m then s else q j) ⟨by omega, fun j hj => ?_⟩ ?_))⟩⟩⟩⟩
  · dsimp only
    by_cases f : j = m
    · rw [f, if_pos rfl]
      exact ⟨ew_at_s rfl rfl rfl rfl, hs⟩
    · rw [if_neg f]
      exact ⟨ew_at_n f (H.2 j (by omega)).1, (H.2 j (by omega)).2⟩
  · have e1 : ew_L (fun j => if j = m then s else q j) m = ew_L q m := ew_Lc (fun j hj => if_neg (by omega))
    rw [if_pos (show m < 32 by omega), ew_Ls, e1, if_pos rfl]
section
variable {post : SY → Prop} {x9 : Nat} {J : Int32 → Int32 → Int32 → Int32 → Int32 → Int32 → Int32 → Int32 → (Nat → Int32) → (Nat → Int32) → (Nat → Int32) → (Nat → Int32) → (Nat → Int32) → (Nat → Int32) → (Nat → Int32) → (Nat → Int32) → (Nat → Int32) → (Nat → Int32) → (Nat → Int32) → (Nat → Int32) → (Nat → Int32) → (Nat → Int32) → Prop}
theorem yp_136b (H : ew_pa m q pk ps pe pv) (hs : ew_xb s)
    (K : ∀ b m' pk ps pe pv q', m = m' + 1 → b < m → ew_bl s (q b) → (∀ j, j < m → ew_bl s (q j) → (q b).2.1 ≤ (q j).2.1) → ew_pa m' q' pk ps pe pv → (ew_L q m).Perm (q b :: ew_L q' m') → J (nI (x9 + 1)) (nI g) l w (nI n) D (ew_rt R (q b)).2.2.2.2.2 (nI m') ek et ev la mk pk ps pe pv (ew_rt R (q b)).1 (ew_rt R (q b)).2.1 (ew_rt R (q b)).2.2.1 (ew_rt R (q b)).2.2.2.1 (ew_rt R (q b)).2.2.2.2.1) :
    ∀ d x b, x + d = m → b < x → ew_bl s (q b) → (∀ j, j < x → ew_bl s (q j) → (q b).2.1 ≤ (q j).2.1) → wY_fire_136 post J kd (nI s.1) (nI s.2.1) (nI s.2.2.1) s.2.2.2 (nI x9) (nI g) l w (nI n) D R.2.2.2.2.2 (nI m) ek et ev la mk pk ps pe pv R.1 R.2.1 R.2.2.1 R.2.2.2.1 R.2.2.2.2.1 (d + 1) (nI b) (nI x) := by
  have hm := H.1
  intro d
  induction d with
  | zero =>
    intro x b hx hb hbl hmin
    have hx' : x = m := by omega
    subst hx'
    obtain ⟨m', rfl⟩ : ∃ m', x = m' + 1 := ⟨x - 1, by omega⟩
    have vb : vp_in (nI b) 32 := vp_in_nI (by omega) (by omega)
    have cb : (nI b).toNatClampNeg = b := nI_clamp (by omega)
    have ab := (H.2 b hb).1
    refine br_t (nI_le (by omega) (by omega)) (br_t (nI_pos' (by omega)) ⟨vb, vb, vb, vb, ?_⟩)
    rw [cb, ab.1, ab.2.1, ab.2.2.1, ab.2.2.2]
    exact yp_emit (yp_rmv H hb (fun pk ps pe pv q' h1 h2 _ => nm_r (nI_1 x9) (K b m' pk ps pe pv q' rfl hb hbl hmin h1 h2)))
  | succ d ih =>
    intro x b hx hb hbl hmin
    have hx1 : x < m := by omega
    have ax := H.2 x hx1
    have ab := H.2 b (by omega)
    have vb : vp_in (nI b) 32 := vp_in_nI (by omega) (by omega)
    have cb : (nI b).toNatClampNeg = b := nI_clamp (by omega)
    have vx : vp_in (nI x) 32 := vp_in_nI (by omega) (by omega)
    have cx : (nI x).toNatClampNeg = x := nI_clamp (by omega)
    have y1 := ax.2.2.1
    have y2 := ab.2.2.1
    refine br_f (nI_ge (by omega) (by omega)) (yp_bel (by omega) ax.1 ax.2 hs (fun z => br_f ew_10 (br_f (nI_pos (by omega)) ⟨vx, vb, ?_⟩)) (fun z => br_t rfl (nm_r (nI_1 x) (ih (x + 1) b (by omega) (by omega) hbl (fun j a u => ?_)))))
    · rw [cb, cx, ax.1.2.1, ab.1.2.1]
      refine ek_if (nI_leI (by omega) (by omega)) (fun z2 => nm_r (nI_1 x) (ih (x + 1) b (by omega) (by omega) hbl (fun j a u => ?_))) (fun z2 => nm_r (nI_1 x) (ih (x + 1) x (by omega) (by omega) z (fun j a u => ?_)))
      · by_cases f : j = x
        · rw [f]
          exact z2
        · exact hmin j (by omega) u
      · by_cases f : j = x
        · rw [f]
          exact Nat.le_refl _
        · have := hmin j (by omega) u
          omega
    · by_cases f : j = x
      · rw [f] at u
        exact absurd u z
      · exact hmin j (by omega) u
theorem yp_136a (H : ew_pa m q pk ps pe pv) (hs : ew_xb s) (K0 : (∀ j, j < m → ¬ ew_bl s (q j)) → wY_fire_244 post kd (nI s.1) (nI s.2.1) (nI s.2.2.1) s.2.2.2 (nI g) l w (nI n) D R.2.2.2.2.2 (nI m) ek et ev la mk pk ps pe pv R.1 R.2.1 R.2.2.1 R.2.2.2.1 R.2.2.2.2.1)
    (K : ∀ b m' pk ps pe pv q', m = m' + 1 → b < m → ew_bl s (q b) → (∀ j, j < m → ew_bl s (q j) → (q b).2.1 ≤ (q j).2.1) → ew_pa m' q' pk ps pe pv → (ew_L q m).Perm (q b :: ew_L q' m') → J (nI (x9 + 1)) (nI g) l w (nI n) D (ew_rt R (q b)).2.2.2.2.2 (nI m') ek et ev la mk pk ps pe pv (ew_rt R (q b)).1 (ew_rt R (q b)).2.1 (ew_rt R (q b)).2.2.1 (ew_rt R (q b)).2.2.2.1 (ew_rt R (q b)).2.2.2.2.1) :
    ∀ d x, x + d = m → (∀ j, j < x → ¬ ew_bl s (q j)) → wY_fire_136 post J kd (nI s.1) (nI s.2.1) (nI s.2.2.1) s.2.2.2 (nI x9) (nI g) l w (nI n) D R.2.2.2.2.2 (nI m) ek et ev la mk pk ps pe pv R.1 R.2.1 R.2.2.1 R.2.2.2.1 R.2.2.2.2.1 (d + 1) (-1) (nI x) := by
  have hm := H.1
  intro d
  induction d with
  | zero =>
    intro x hx hno
    have hx' : x = m := by omega
    subst hx'
    exact br_t (nI_le (by omega) (by omega)) (br_f (by decide) (K0 hno))
  | succ d ih =>
    intro x hx hno
    have hx1 : x < m := by omega
    have ax := H.2 x hx1
    refine br_f (nI_ge (by omega) (by omega)) (yp_bel (by omega) ax.1 ax.2 hs (fun z => br_f ew_10 (br_t (by decide) (nm_r (nI_1 x) (yp_136b H hs K d (x + 1) x (by omega) (by omega) z (fun j a u => ?_))))) (fun z => br_t rfl (nm_r (nI_1 x) (ih (x + 1) (by omega) (fun j a => ?_)))))
    · by_cases f : j = x
      · rw [f]
        exact Nat.le_refl _
      · exact absurd u (hno j (by omega))
    · by_cases f : j = x
      · rw [f]
        exact z
      · exact hno j (by omega)
theorem yp_123 (hs : ew_xb s) {N : List ew_P} (hN : ∀ y, y ∈ N → ¬ ew_bl s y) {R0 : ew_R}
    (K : ∀ m pk ps pe pv q, ew_pa m q pk ps pe pv → (ew_L q m).Perm N → wY_fire_244 post kd (nI s.1) (nI s.2.1) (nI s.2.2.1) s.2.2.2 (nI g) l w (nI n) D R0.2.2.2.2.2 (nI m) ek et ev la mk pk ps pe pv R0.1 R0.2.1 R0.2.2.1 R0.2.2.2.1 R0.2.2.2.2.1) :
    ∀ (B : List ew_P) x9 m pk ps pe pv q R, x9 + B.length ≤ 32 → ew_pa m q pk ps pe pv → (ew_L q m).Perm (B ++ N) → B.Pairwise ew_pl → (∀ y, y ∈ B → ew_bl s y) → B.foldl ew_rt R = R0 → wY_fire_123 post kd (nI s.1) (nI s.2.1) (nI s.2.2.1) s.2.2.2 (B.length + 1) (nI x9) (nI g) l w (nI n) D R.2.2.2.2.2 (nI m) ek et ev la mk pk ps pe pv R.1 R.2.1 R.2.2.1 R.2.2.2.1 R.2.2.2.2.1 := by
  intro B
  induction B with
  | nil =>
    intro x9 m pk ps pe pv q R hl H hp _ _ hR
    have h9 : x9 ≤ 32 := hl
    have hR' : R = R0 := hR
    subst hR'
    refine br_f (nI_nlt (a := 32) h9 (by omega)) ⟨m + 1, yp_136a H hs (fun _ => K m pk ps pe pv q H hp) (fun b m' pk ps pe pv q' h1 h2 h3 => absurd h3 (hN (q b) (hp.mem_iff.mp (ew_Lm.mpr ⟨b, h2, rfl⟩)))) m 0 (by omega) (fun j a => by omega)⟩
  | cons b0 B ih =>
    intro x9 m pk ps pe pv q R hl H hp hsr hB hR
    rw [List.length_cons] at hl
    refine br_f (nI_nlt (a := 32) (show x9 ≤ 32 by omega) (by omega)) ⟨m + 1, yp_136a H hs (fun hno => ?_) (fun b m' pk ps pe pv q' h1 h2 h3 h4 h5 h6 => ?_) m 0 (by omega) (fun j a => by omega)⟩
    · obtain ⟨j, hj, he⟩ := ew_Lm.mp (hp.mem_iff.mpr (List.mem_append.mpr (Or.inl List.mem_cons_self)))
      exact absurd (hB b0 List.mem_cons_self) (he ▸ hno j hj)
    · have hz : q b = b0 := by
        refine ew_pick (s := s) hp hsr hB hN (ew_Lm.mpr ⟨b, h2, rfl⟩) h3 (fun y hy hb => ?_)
        obtain ⟨j, hj, he⟩ := ew_Lm.mp hy
        rw [← he] at hb ⊢
        exact h4 j hj hb
      rw [hz] at h6 ⊢
      exact ih (x9 + 1) m' pk ps pe pv q' (ew_rt R b0) (by omega) h5 (h6.symm.trans hp).cons_inv (List.pairwise_cons.mp hsr).2 (fun y hy => hB y (List.mem_cons_of_mem _ hy)) hR
end
theorem yp_37 (H : ew_pa m q pk ps pe pv) (hs : ew_xb s) {P : List ew_P} (hP : P.Perm (ew_L q m)) {post : SY → Prop} (h1 : ew_B s P = [s] → post (nI g, l, w, nI n, D, c, nI m, ek, et, ev, la, mk, pk, ps, pe, pv, r1, r2, r3, r4, r5)) (h0 : ¬ ew_B s P = [s] → ∃ fu, wY_fire_123 post kd (nI s.1) (nI s.2.1) (nI s.2.2.1) s.2.2.2 fu 0 (nI g) l w (nI n) D c (nI m) ek et ev la mk pk ps pe pv r1 r2 r3 r4 r5) :
    ∀ d x z, x + d = m → z = (if ew_dc (0 < ew_ct (fun i => ew_dc (ew_mt s (q i))) x) = true then (1 : Int32) else 0) → wY_fire_37 post kd (nI s.1) (nI s.2.1) (nI s.2.2.1) s.2.2.2 (nI g) l w (nI n) D c (nI m) ek et ev la mk pk ps pe pv r1 r2 r3 r4 r5 (d + 1) (nI (ew_ct (fun i => ew_dc (ew_bl s (q i))) x)) z (nI x) := by
  have hm := H.1
  intro d
  induction d with
  | zero =>
    intro x z hx hz
    have hx' : x = m := by omega
    subst hx'
    have b1 := ew_ct_le (fun i => ew_dc (ew_bl s (q i))) x
    have sy := ew_syncY (x := s) hP
    refine br_t (nI_le (by omega) (by omega)) (ek_if (nI_eq (b := 1) (by omega) (by omega)) (fun z1 => ?_) (fun z1 => h0 (fun z => z1 (sy.mp z).1)))
    by_cases f : 0 < ew_ct (fun i => ew_dc (ew_mt s (q i))) x
    · rw [if_pos (ew_dcI.mpr f)] at hz
      rw [hz]
      exact br_f ew_10 (h1 (sy.mpr ⟨z1, f⟩))
    · rw [if_neg (fun y => f (ew_dcI.mp y))] at hz
      rw [hz]
      exact br_t rfl (h0 (fun z => f (sy.mp z).2))
  | succ d ih =>
    intro x z hx hz
    have hx1 : x < m := by omega
    have ax := (H.2 x hx1).1
    have v1 : vp_in (nI x) 32 := vp_in_nI (by omega) (by omega)
    have c1 : (nI x).toNatClampNeg = x := nI_clamp (by omega)
    obtain ⟨q1, q2, q3⟩ := (H.2 x hx1).2
    obtain ⟨s1, s2, s3⟩ := id hs
    have no : ¬ ew_mt s (q x) → z = (if ew_dc (0 < ew_ct (fun i => ew_dc (ew_mt s (q i))) (x + 1)) = true then (1 : Int32) else 0) := fun y => by
      rw [hz, ew_ct.eq_2, if_neg (c := ew_dc (ew_mt s (q x)) = true) (fun u => y (ew_dcI.mp u))]
    refine br_f (nI_ge (by omega) (by omega)) (yp_bel (by omega) ax (H.2 x hx1).2 hs (fun hb => br_f ew_10 (nm_r (e' := nI (ew_ct (fun i => ew_dc (ew_bl s (q i))) (x + 1))) ?_ ⟨v1, ?_⟩)) (fun hb => br_t rfl (nm_r (nI_1 x) ?_)))
    · rw [nI_1, ew_ct, if_pos (ew_dcI.mpr hb)]
    · rw [c1, ax.2.1, ax.2.2.1, ax.2.2.2]
      refine ek_if (nI_eq (by omega) (by omega)) (fun z1 => ⟨v1, ek_if (nI_eq (by omega) (by omega)) (fun z2 => ⟨v1, br_c (fun z3 => nm_r (nI_1 x) (ih (x + 1) 1 (by omega) ?_)) (fun z3 => nm_r (nI_1 x) (ih (x + 1) z (by omega) (no (fun y => z3 y.2.2.2))))⟩) (fun z2 => nm_r (nI_1 x) (ih (x + 1) z (by omega) (no (fun y => z2 y.2.2.1))))⟩) (fun z1 => nm_r (nI_1 x) (ih (x + 1) z (by omega) (no (fun y => z1 y.2.1))))
      rw [if_pos]
      exact ew_dcI.mpr ((ew_ct_pos (x + 1)).mpr ⟨x, by omega, ew_dcI.mpr ⟨hb, z1, z2, z3⟩⟩)
    · have IH := ih (x + 1) z (by omega) (no (fun y => hb y.1))
      rw [ew_ct.eq_2, if_neg (fun u => hb (ew_dcI.mp u))] at IH
      exact IH
/-- firing, as Y does it -/
theorem ya_fire (H : ew_yv g n e lb ek et ev la) (HP : ew_pa m q pk ps pe pv) {P : List ew_P} (hP : P.Perm (ew_L q m)) (HG : ew_G g (ew_L e n) P) (hr : r < n) (hrr : lb r = r) {post : SY → Prop}
    (K : ∀ k pk ps pe pv q', ew_pa k q' pk ps pe pv → (ew_fi kd (P, R) (ew_ss g (ew_L e n) (ew_ks g e n r))).1.Perm (ew_L q' k) → post (nI g, l, w, nI n, D, (ew_fi kd (P, R) (ew_ss g (ew_L e n) (ew_ks g e n r))).2.2.2.2.2.2, nI k, ek, et, ev, la, mk, pk, ps, pe, pv, (ew_fi kd (P, R) (ew_ss g (ew_L e n) (ew_ks g e n r))).2.1, (ew_fi kd (P, R) (ew_ss g (ew_L e n) (ew_ks g e n r))).2.2.1, (ew_fi kd (P, R) (ew_ss g (ew_L e n) (ew_ks g e n r))).2.2.2.1, (ew_fi kd (P, R) (ew_ss g (ew_L e n) (ew_ks g e n r))).2.2.2.2.1, (ew_fi kd (P, R) (ew_ss g (ew_L e n) (ew_ks g e n r))).2.2.2.2.2.1)) : wpY_fire post (nI g, l, w, nI n, D, R.2.2.2.2.2, nI m, ek, et, ev, la, mk, pk, ps, pe, pv, R.1, R.2.1, R.2.2.1, R.2.2.2.1, R.2.2.2.2.1) (nI r) kd := by
  obtain ⟨⟨hg, hg2, hn, hE, hb⟩, hl, hlb⟩ := id H
  have v1 : vp_in (nI r) 32 := vp_in_nI (by omega) (by omega)
  have c1 : (nI r).toNatClampNeg = r := nI_clamp (by omega)
  have hs : ew_xb (ew_ss g (ew_L e n) (ew_ks g e n r)) := by
    have := ew_okS (l := 0) (W := 0) (ks := ew_ks g e n r) (e := e) (n := n) (g := g) ⟨hg, hg2, by omega, by omega, hn, hb⟩ (ew_ks_O hr)
    exact ⟨this.1, by omega, this.2.2⟩
  have hN : ∀ y, y ∈ ew_N (ew_ss g (ew_L e n) (ew_ks g e n r)) P → ¬ ew_bl (ew_ss g (ew_L e n) (ew_ks g e n r)) y := fun y hy => (ew_N_m.mp hy).2
  have hBl : (ew_B (ew_ss g (ew_L e n) (ew_ks g e n r)) P).length ≤ 32 := Nat.le_trans (List.length_filter_le _ _) HG.2.2
  refine ⟨v1, nm_r (e' := nI (ew_ss g (ew_L e n) (ew_ks g e n r)).1) (by rw [c1, (hE r hr).1]; rfl) (ya_st H hr hrr (ya_en H hr hrr (ya_sm H hr hrr ⟨m + 1, ?_⟩)))⟩
  refine yp_37 (s := ew_ss g (ew_L e n) (ew_ks g e n r)) HP hs hP (fun z => ?_) (fun z => ⟨(ew_B (ew_ss g (ew_L e n) (ew_ks g e n r)) P).length + 1, ?_⟩) m 0 0 (by omega) ?_
  · have := K m pk ps pe pv q HP
    rw [ew_fi_y (st := (P, R)) z] at this
    exact this hP
  · refine yp_123 hs hN (R0 := (ew_B (ew_ss g (ew_L e n) (ew_ks g e n r)) P).foldl ew_rt R) (fun m' pk ps pe pv q' h1 h2 => yp_244 h1 hs (fun k pk ps pe pv q'' h3 h4 => ?_)) (ew_B (ew_ss g (ew_L e n) (ew_ks g e n r)) P) 0 m pk ps pe pv q R (by omega) HP (hP.symm.trans (ew_BN _ P)) (ew_B_p _ HG.1) (fun y hy => (ew_B_m.mp hy).2) rfl
    have K' := K k pk ps pe pv q'' h3
    rw [ew_fi_n (st := (P, R)) z] at K'
    refine K' ?_
    have hlen : m' = (ew_N (ew_ss g (ew_L e n) (ew_ks g e n r)) P).length := by
      rw [← h2.length_eq, ew_Ll]
    rw [h4, ← hlen]
    dsimp only
    by_cases f : m' < 32
    · rw [if_pos f, if_pos f]
      exact (ew_ins_p _ _).trans ((h2.symm.cons _).trans (List.perm_append_singleton _ _).symm)
    · rw [if_neg f, if_neg f]
      exact h2.symm
  · rw [if_neg]
    exact fun y => absurd (ew_dcI.mp y) (Nat.lt_irrefl 0)
theorem yp_dr0 (hs : ew_xb s) {P : List ew_P} {post : SY → Prop} (K : ∀ m pk ps pe pv q, ew_pa m q pk ps pe pv → (ew_N s P).Perm (ew_L q m) → post (nI g, l, w, nI n, D, c, nI m, ek, et, ev, la, mk, pk, ps, pe, pv, r1, r2, r3, r4, r5)) :
    ∀ d p kk m pk ps pe pv q, p + d = m → kk + d ≤ 69 → ew_pa m q pk ps pe pv → (∀ j, j < p → ¬ ew_bl s (q j)) → (ew_N s P).Perm (ew_N s (ew_L q m)) → wY_dropPanesOf_26 post (nI s.1) (nI s.2.1) (nI s.2.2.1) (d + 1) (nI p) (nI kk) (nI g) l w (nI n) D c (nI m) ek et ev la mk pk ps pe pv r1 r2 r3 r4 r5 := by
  intro d
  induction d with
  | zero =>
    intro p kk m pk ps pe pv q hp hk H hno hN
    have hm := H.1
    refine br_f (nI_ge (b := 70) (by omega) (by omega)) (br_t (nI_le (by omega) (by omega)) (K m pk ps pe pv q H ?_))
    have e1 : ew_N s (ew_L q m) = ew_L q m := by
      refine ew_filt_all (fun y hy => ew_dcI.mpr ?_)
      obtain ⟨j, hj, he⟩ := ew_Lm.mp hy
      rw [← he]
      exact hno j (by omega)
    rw [e1] at hN
    exact hN
  | succ d ih =>
    intro p kk m pk ps pe pv q hp hk H hno hN
    have hm := H.1
    have ap := H.2 p (by omega)
    obtain ⟨m', rfl⟩ : ∃ m', m = m' + 1 := ⟨m - 1, by omega⟩
    refine br_f (nI_ge (b := 70) (by omega) (by omega)) (br_f (nI_ge (by omega) (by omega)) (yp_bel (by omega) ap.1 ap.2 hs (fun z => br_f ew_10 (yp_rmv H (by omega) (fun pk ps pe pv q' h1 h2 h3 => nm_r (nI_1 kk) (ih p (kk + 1) m' pk ps pe pv q' (by omega) (by omega) h1 (fun j a => by rw [h3 j (by omega)]; exact hno j a) ?_)))) (fun z => br_t rfl (nm_r (nI_1 p) (nm_r (nI_1 kk) (ih (p + 1) (kk + 1) (m' + 1) pk ps pe pv q (by omega) (by omega) H (fun j a => ?_) hN))))))
    · have e1 : (ew_N s (ew_L q (m' + 1))).Perm (ew_N s (q p :: ew_L q' m')) := h2.filter _
      have e2 : ew_N s (q p :: ew_L q' m') = ew_N s (ew_L q' m') := by
        unfold ew_N
        rw [List.filter_cons_of_neg (p := fun y => ew_dc (¬ ew_bl s y)) (fun u => (ew_dcI.mp u) z)]
      rw [e2] at e1
      exact hN.trans e1
    · by_cases f : j = p
      · rw [f]
        exact z
      · exact hno j (by omega)
theorem ya_drop (H : ew_yv g n e lb ek et ev la) (HP : ew_pa m q pk ps pe pv) {P : List ew_P} (hP : P.Perm (ew_L q m)) (hr : r < n) (hrr : lb r = r) {post : SY → Prop}
    (K : ∀ k pk ps pe pv q', ew_pa k q' pk ps pe pv → (ew_N (ew_ss g (ew_L e n) (ew_ks g e n r)) P).Perm (ew_L q' k) → post (nI g, l, w, nI n, D, c, nI k, ek, et, ev, la, mk, pk, ps, pe, pv, r1, r2, r3, r4, r5)) : wpY_dropPanesOf post (nI g, l, w, nI n, D, c, nI m, ek, et, ev, la, mk, pk, ps, pe, pv, r1, r2, r3, r4, r5) (nI r) := by
  obtain ⟨⟨hg, hg2, hn, hE, hb⟩, hl, hlb⟩ := id H
  have hm := HP.1
  have v1 : vp_in (nI r) 32 := vp_in_nI (by omega) (by omega)
  have c1 : (nI r).toNatClampNeg = r := nI_clamp (by omega)
  have hs : ew_xb (ew_ss g (ew_L e n) (ew_ks g e n r)) := by
    have := ew_okS (l := 0) (W := 0) (ks := ew_ks g e n r) (e := e) (n := n) (g := g) ⟨hg, hg2, by omega, by omega, hn, hb⟩ (ew_ks_O hr)
    exact ⟨this.1, by omega, this.2.2⟩
  exact ⟨v1, nm_r (e' := nI (ew_ss g (ew_L e n) (ew_ks g e n r)).1) (by rw [c1, (hE r hr).1]; rfl) (ya_st H hr hrr (ya_en H hr hrr ⟨m + 1, yp_dr0 (s := ew_ss g (ew_L e n) (ew_ks g e n r)) hs K m 0 0 m pk ps pe pv q (by omega) (by omega) HP (fun j a => by omega) (hP.filter _)⟩))⟩
end
end
section
/-! Y: early, advance, paneField -/
section
variable {g n m i j x k r lt W : Nat} {l w D c kd : Int32} {ek et ev la mk pk ps pe pv r1 r2 r3 r4 r5 : Nat → Int32} {e f : Nat → ew_E} {lb : Nat → Nat} {q : Nat → ew_P} {s y : ew_P} {R : ew_R}
theorem ew_G_p {E E' : List ew_E} {P : List ew_P} (h : E.Perm E') (hG : ew_G g E P) : ew_G g E' P := by
  unfold ew_G at hG ⊢
  rw [← ew_Mp h]
  exact hG
theorem ew_tk {t : Nat → Bool} {E : List ew_E} {st0 : List ew_P × ew_R} {L : List (Nat × Nat)} {ks : Nat × Nat} (h : L[x]? = some ks) : (L.take (x + 1)).foldl (ew_fs kd t g E) st0 = ew_fs kd t g E ((L.take x).foldl (ew_fs kd t g E) st0) ks := by
  rw [List.take_succ, h, List.foldl_append]
  rfl
theorem yt_ear0 (H : ew_yv g n e lb ek et ev la) (hok : ew_ok g lt W n e) (hp : (ew_L f n).Perm (ew_L e n)) (hs : ew_srt f n) {st0 : List ew_P × ew_R} (HG : ew_G g (ew_L f n) st0.1) {post : Int32 → SY → Prop} {x1 : Int32}
    (K : ∀ m q pk ps pe pv, ew_pa m q pk ps pe pv → ((ew_xl g f n).foldl (ew_fs 1 (fun z => ew_dc (¬ z ≤ W)) g (ew_L f n)) st0).1.Perm (ew_L q m) → post (((ew_xl g f n).foldl (ew_fs 1 (fun z => ew_dc (¬ z ≤ W)) g (ew_L f n)) st0).2.2.2.2.2.2 - x1) (nI g, nI lt, nI W, nI n, D, ((ew_xl g f n).foldl (ew_fs 1 (fun z => ew_dc (¬ z ≤ W)) g (ew_L f n)) st0).2.2.2.2.2.2, nI m, ek, et, ev, la, mk, pk, ps, pe, pv, ((ew_xl g f n).foldl (ew_fs 1 (fun z => ew_dc (¬ z ≤ W)) g (ew_L f n)) st0).2.1, ((ew_xl g f n).foldl (ew_fs 1 (fun z => ew_dc (¬ z ≤ W)) g (ew_L f n)) st0).2.2.1, ((ew_xl g f n).foldl (ew_fs 1 (fun z => ew_dc (¬ z ≤ W)) g (ew_L f n)) st0).2.2.2.1, ((ew_xl g f n).foldl (ew_fs 1 (fun z => ew_dc (¬ z ≤ W)) g (ew_L f n)) st0).2.2.2.2.1, ((ew_xl g f n).foldl (ew_fs 1 (fun z => ew_dc (¬ z ≤ W)) g (ew_L f n)) st0).2.2.2.2.2.1)) :
    ∀ d x m q pk ps pe pv, x + d = (ew_xl g f n).length → ew_pa m q pk ps pe pv → (((ew_xl g f n).take x).foldl (ew_fs 1 (fun z => ew_dc (¬ z ≤ W)) g (ew_L f n)) st0).1.Perm (ew_L q m) →
      wY_early_12 post x1 (nI (ew_xl g f n).length) (d + 1) (nI x) (nI g) (nI lt) (nI W) (nI n) D (((ew_xl g f n).take x).foldl (ew_fs 1 (fun z => ew_dc (¬ z ≤ W)) g (ew_L f n)) st0).2.2.2.2.2.2 (nI m) ek et ev la mk pk ps pe pv (((ew_xl g f n).take x).foldl (ew_fs 1 (fun z => ew_dc (¬ z ≤ W)) g (ew_L f n)) st0).2.1 (((ew_xl g f n).take x).foldl (ew_fs 1 (fun z => ew_dc (¬ z ≤ W)) g (ew_L f n)) st0).2.2.1 (((ew_xl g f n).take x).foldl (ew_fs 1 (fun z => ew_dc (¬ z ≤ W)) g (ew_L f n)) st0).2.2.2.1 (((ew_xl g f n).take x).foldl (ew_fs 1 (fun z => ew_dc (¬ z ≤ W)) g (ew_L f n)) st0).2.2.2.2.1 (((ew_xl g f n).take x).foldl (ew_fs 1 (fun z => ew_dc (¬ z ≤ W)) g (ew_L f n)) st0).2.2.2.2.2.1 := by
  obtain ⟨o1, o2, o3, o4, o5, o6⟩ := id hok
  have hle : (ew_xl g f n).length ≤ n := by
    rw [ew_xl_l]
    exact ew_ct_le _ n
  intro d
  induction d with
  | zero =>
    intro x m q pk ps pe pv hx H1 H2
    rw [List.take_of_length_le (by omega)] at H2 ⊢
    exact br_t (nI_le (by omega) (by omega)) (K m q pk ps pe pv H1 H2)
  | succ d ih =>
    intro x m q pk ps pe pv hx H1 H2
    refine br_f (nI_ge (by omega) (by omega)) (ya_rp H hp hs (by omega) (fun r a b hr => br_f (nI_pos (by omega)) (ya_en H a b ?_)))
    have G1 : ew_G g (ew_L e n) (((ew_xl g f n).take x).foldl (ew_fs 1 (fun z => ew_dc (¬ z ≤ W)) g (ew_L f n)) st0).1 :=
      ew_G_p hp (ew_ff_G o1 _ st0 (fun ks hk => ew_xl_O hs (Nat.le_refl _) (List.mem_of_mem_take hk)) HG)
    have bs := ew_okS hok (ew_ks_O (g := g) (e := e) a)
    have T := ew_tk (kd := 1) (t := fun z => ew_dc (¬ z ≤ W)) (g := g) (E := ew_L f n) (st0 := st0) hr
    refine ek_if (nI_leI (by omega) (by omega)) (fun z => nm_r (nI_1 x) ?_) (fun z => ya_fire H H1 H2 G1 a b (fun k pk ps pe pv q' h1 h2 => nm_r (nI_1 x) ?_))
    · have IH := ih (x + 1) m q pk ps pe pv (by omega) H1
      rw [T, ew_fs_n (fun u => (ew_dcI.mp u) (by rw [ew_ss_p hp]; exact z))] at IH
      exact IH H2
    · have IH := ih (x + 1) k q' pk ps pe pv (by omega) h1
      rw [T, ew_fs_y (t := fun z => ew_dc (¬ z ≤ W)) (ew_dcI.mpr (by rw [ew_ss_p hp]; exact z)), ew_ss_p hp] at IH
      exact IH h2
theorem yt_ear (H : ew_yv g n e lb ek et ev la) (hok : ew_ok g lt W n e) (hp : (ew_L f n).Perm (ew_L e n)) (hs : ew_srt f n) {P : List ew_P} (HP : ew_pa m q pk ps pe pv) (hP : P.Perm (ew_L q m)) (HG : ew_G g (ew_L f n) P) {post : Int32 → SY → Prop}
    (K : ∀ m' q' pk ps pe pv, ew_pa m' q' pk ps pe pv → ((ew_xl g f n).foldl (ew_fs 1 (fun z => ew_dc (¬ z ≤ W)) g (ew_L f n)) (P, R)).1.Perm (ew_L q' m') → post (((ew_xl g f n).foldl (ew_fs 1 (fun z => ew_dc (¬ z ≤ W)) g (ew_L f n)) (P, R)).2.2.2.2.2.2 - R.2.2.2.2.2) (nI g, nI lt, nI W, nI n, D, ((ew_xl g f n).foldl (ew_fs 1 (fun z => ew_dc (¬ z ≤ W)) g (ew_L f n)) (P, R)).2.2.2.2.2.2, nI m', ek, et, ev, la, mk, pk, ps, pe, pv, ((ew_xl g f n).foldl (ew_fs 1 (fun z => ew_dc (¬ z ≤ W)) g (ew_L f n)) (P, R)).2.1, ((ew_xl g f n).foldl (ew_fs 1 (fun z => ew_dc (¬ z ≤ W)) g (ew_L f n)) (P, R)).2.2.1, ((ew_xl g f n).foldl (ew_fs 1 (fun z => ew_dc (¬ z ≤ W)) g (ew_L f n)) (P, R)).2.2.2.1, ((ew_xl g f n).foldl (ew_fs 1 (fun z => ew_dc (¬ z ≤ W)) g (ew_L f n)) (P, R)).2.2.2.2.1, ((ew_xl g f n).foldl (ew_fs 1 (fun z => ew_dc (¬ z ≤ W)) g (ew_L f n)) (P, R)).2.2.2.2.2.1)) : wpY_early post (nI g, nI lt, nI W, nI n, D, R.2.2.2.2.2, nI m, ek, et, ev, la, mk, pk, ps, pe, pv, R.1, R.2.1, R.2.2.1, R.2.2.2.1, R.2.2.2.2.1) := by
  refine ya_sc H ?_
  rw [ew_cnt hp hs H.1.1 H.2.2]
  exact ⟨(ew_xl g f n).length + 1, yt_ear0 H hok hp hs (st0 := (P, R)) HG K (ew_xl g f n).length 0 m q pk ps pe pv (by omega) HP hP⟩
theorem yt_184 (H : ew_ev g n e ek et ev) {P1 : List ew_P} {post : Int32 → SY → Prop} {x2 : Int32} (hmk : ∀ j, j < n → mk j = (if ew_kp g (ew_L e n) lt W (e j) = true then (0 : Int32) else 1))
    (K : ∀ k c la lb ek et ev, ew_yv g k c lb ek et ev la → ew_L c k = (ew_L e n).filter (ew_kp g (ew_L e n) lt W) → post (R.2.2.2.2.2 - x2) (nI g, l, w, nI k, D, R.2.2.2.2.2, nI m, ek, et, ev, la, mk, pk, ps, pe, pv, R.1, R.2.1, R.2.2.1, R.2.2.2.1, R.2.2.2.2.1)) :
    ∀ d x k ek et ev c, x + d = n → k ≤ x → ew_aE k c ek et ev → (∀ j, x ≤ j → j < n → ew_ae j (e j) ek et ev) → ew_L c k = (ew_L e x).filter (ew_kp g (ew_L e n) lt W) → wY_advance_184 post x2 (nI g) l w (nI n) D R.2.2.2.2.2 (nI m) (d + 1) (nI k) (nI x) ek et ev la mk pk ps pe pv R.1 R.2.1 R.2.2.1 R.2.2.2.1 R.2.2.2.2.1 := by
  obtain ⟨hg, hg2, hn, hE, hb⟩ := id H
  intro d
  induction d with
  | zero =>
    intro x k ek et ev c hx hk h1 h2 h3
    have hx' : x = n := by omega
    subst hx'
    have Hc : ew_ev g k c ek et ev := by
      refine ⟨hg, hg2, by omega, h1, fun j hj => ?_⟩
      have hm : c j ∈ (ew_L e x).filter (ew_kp g (ew_L e x) lt W) := by
        rw [← h3]
        exact ew_Lm.mpr ⟨j, hj, rfl⟩
      obtain ⟨t, ht, z2⟩ := ew_Lm.mp (List.mem_filter.mp hm).1
      rw [← z2]
      exact hb t ht
    exact br_t (nI_le (by omega) (by omega)) (yb_rel Hc (fun la lb g1 g2 => K k c la lb ek et ev ⟨Hc, g1, g2⟩ h3))
  | succ d ih =>
    intro x k ek et ev c hx hk h1 h2 h3
    have hx1 : x < n := by omega
    have ax := h2 x (Nat.le_refl _) hx1
    have vx : vp_in (nI x) 32 := vp_in_nI (by omega) (by omega)
    have cx : (nI x).toNatClampNeg = x := nI_clamp (by omega)
    have vk : vp_in (nI k) 32 := vp_in_nI (by omega) (by omega)
    have ck : (nI k).toNatClampNeg = k := nI_clamp (by omega)
    refine br_f (nI_ge (by omega) (by omega)) ⟨vx, ?_⟩
    rw [cx, ck, hmk x hx1]
    by_cases z : ew_kp g (ew_L e n) lt W (e x) = true
    · rw [if_pos z]
      refine br_t rfl ⟨vx, vk, nm_e ⟨vx, vk, nm_e ⟨vx, vk, nm_e (nm_r (nI_1 k) (nm_r (nI_1 x) (ih (x + 1) (k + 1) _ _ _ (fun j => if j = k then e x else c j) (by omega) (by omega) (fun j hj => ?_) (fun j a b => ?_) (ew_cpy h3 z))))⟩⟩⟩
      · dsimp only
        by_cases u : j = k
        · rw [if_pos u, u]
          exact ew_ae_s ax.1 ax.2.1 ax.2.2
        · rw [if_neg u]
          exact ew_ae_n u (h1 j (by omega))
      · exact ew_ae_n (by omega) (h2 j (by omega) b)
    · rw [if_neg z]
      exact br_f ew_10 (nm_r (nI_1 x) (ih (x + 1) k ek et ev c (by omega) (by omega) h1 (fun j a b => h2 j (by omega) b) (ew_cpn h3 z)))
theorem yt_135 (H : ew_yv g n e lb ek et ev la) {P1 : List ew_P} {post : Int32 → SY → Prop} {x2 : Int32} (hmk : ∀ j, j < n → mk j = (if ew_kp g (ew_L e n) lt W (e j) = true then (0 : Int32) else 1))
    (K : ∀ m q pk ps pe pv, ew_pa m q pk ps pe pv → (P1.filter (ew_pp g (ew_L e n) lt W)).Perm (ew_L q m) → ∃ fu, wY_advance_184 post x2 (nI g) l w (nI n) D R.2.2.2.2.2 (nI m) fu 0 0 ek et ev la mk pk ps pe pv R.1 R.2.1 R.2.2.1 R.2.2.2.1 R.2.2.2.2.1) :
    ∀ d x m q pk ps pe pv, x + d = n → ew_pa m q pk ps pe pv → (P1.filter (ew_FY g e n lb lt W x)).Perm (ew_L q m) → wY_advance_135 post x2 (d + 1) (nI x) (nI g) l w (nI n) D R.2.2.2.2.2 (nI m) ek et ev la mk pk ps pe pv R.1 R.2.1 R.2.2.1 R.2.2.2.1 R.2.2.2.2.1 := by
  obtain ⟨⟨hg, hg2, hn, hE, hb⟩, hl, hlb⟩ := id H
  intro d
  induction d with
  | zero =>
    intro x m q pk ps pe pv hx H1 H2
    have hx' : x = n := by omega
    subst hx'
    rw [ew_FY_n hlb] at H2
    exact br_t (nI_le (by omega) (by omega)) (K m q pk ps pe pv H1 H2)
  | succ d ih =>
    intro x m q pk ps pe pv hx H1 H2
    have hx1 : x < n := by omega
    have vx : vp_in (nI x) 32 := vp_in_nI (by omega) (by omega)
    have cx : (nI x).toNatClampNeg = x := nI_clamp (by omega)
    have b2 := (hlb x hx1).1
    have kI : ew_kp g (ew_L e n) lt W (e x) = true ↔ ¬ (ew_ss g (ew_L e n) (ew_ks g e n x)).2.2.1 + lt ≤ W := by
      rw [ew_kp_k, ew_dcI]
    refine br_f (nI_ge (by omega) (by omega)) ⟨vx, ?_⟩
    rw [cx, hl x hx1, hmk x hx1]
    refine ek_if (nI_eq (by omega) (by omega)) (fun z1 => ⟨vx, ?_⟩) (fun z1 => nm_r (nI_1 x) (ih (x + 1) m q pk ps pe pv (by omega) H1 ?_))
    · by_cases z : ew_kp g (ew_L e n) lt W (e x) = true
      · rw [if_pos z]
        refine br_t rfl (nm_r (nI_1 x) (ih (x + 1) m q pk ps pe pv (by omega) H1 ?_))
        rw [ew_FY_keep P1 (fun u => (kI.mp z) u.2)]
        exact H2
      · rw [if_neg z]
        refine br_f ew_10 (ya_drop H H1 H2 hx1 z1 (fun k pk ps pe pv q' h1 h2 => nm_r (nI_1 x) (ih (x + 1) k q' pk ps pe pv (by omega) h1 ?_)))
        rw [ew_FY_go P1 z1 (Classical.byContradiction fun u => z (kI.mpr u))] at h2
        exact h2
    · rw [ew_FY_keep P1 (fun u => z1 u.1)]
      exact H2
theorem ew_n0 : vp_nar .boolean 0 = 0 := rfl
theorem ew_n1 : vp_nar .boolean 1 = 1 := rfl
theorem yt_82 (H : ew_yv g n e lb ek et ev la) (hok : ew_ok g lt W n e) {post : Int32 → SY → Prop} {x2 : Int32}
    (K : ∀ mk, (∀ j, j < n → mk j = (if ew_kp g (ew_L e n) lt W (e j) = true then (0 : Int32) else 1)) → ∃ fu, wY_advance_135 post x2 fu 0 (nI g) (nI lt) (nI W) (nI n) D R.2.2.2.2.2 (nI m) ek et ev la mk pk ps pe pv R.1 R.2.1 R.2.2.1 R.2.2.2.1 R.2.2.2.2.1) :
    ∀ d x mk, x + d = n → (∀ j, j < x → mk j = (if ew_kp g (ew_L e n) lt W (e j) = true then (0 : Int32) else 1)) → wY_advance_82 post x2 (nI g) (nI lt) (nI W) (nI n) D R.2.2.2.2.2 (nI m) (d + 1) (nI x) ek et ev la mk pk ps pe pv R.1 R.2.1 R.2.2.1 R.2.2.2.1 R.2.2.2.2.1 := by
  obtain ⟨⟨hg, hg2, hn, hE, hb⟩, hl, hlb⟩ := id H
  obtain ⟨o1, o2, o3, o4, o5, o6⟩ := id hok
  intro d
  induction d with
  | zero =>
    intro x mk hx h1
    have hx' : x = n := by omega
    subst hx'
    exact br_t (nI_le (by omega) (by omega)) (K mk h1)
  | succ d ih =>
    intro x mk hx h1
    have hx1 : x < n := by omega
    have vx : vp_in (nI x) 32 := vp_in_nI (by omega) (by omega)
    have cx : (nI x).toNatClampNeg = x := nI_clamp (by omega)
    have b2 := hlb x hx1
    have kI : ew_kp g (ew_L e n) lt W (e x) = true ↔ ¬ (ew_ss g (ew_L e n) (ew_ks g e n x)).2.2.1 + lt ≤ W := by
      rw [ew_kp_k, ew_dcI]
    have bs := ew_okS hok (ew_ks_O (g := g) (e := e) hx1)
    have hk : ew_ks g e n (lb x) = ew_ks g e n x := ((ew_ks_i hx1 b2.1).mpr b2.2.1).symm
    have nxt : ∀ v : Int32, v = (if ew_kp g (ew_L e n) lt W (e x) = true then (0 : Int32) else 1) → ∀ j, j < x + 1 → upd mk x v j = (if ew_kp g (ew_L e n) lt W (e j) = true then (0 : Int32) else 1) := by
      intro v hv j hj
      by_cases u : j = x
      · rw [u, pk_us, hv]
      · rw [pk_un u]
        exact h1 j (by omega)
    refine br_f (nI_ge (by omega) (by omega)) ⟨vx, ?_⟩
    rw [cx, hl x hx1]
    refine ya_en H b2.1 (ew_lab_i hlb hx1) ?_
    rw [hk, nI_add]
    refine ek_if (nI_ltI (by omega) (by omega)) (fun z => ⟨vx, nm_r (e' := upd mk x 0) (by rw [ew_n0]) (nm_r (nI_1 x) (ih (x + 1) _ (by omega) (nxt 0 ?_)))⟩) (fun z => ⟨vx, nm_r (e' := upd mk x 1) (by rw [ew_n1]) (nm_r (nI_1 x) (ih (x + 1) _ (by omega) (nxt 1 ?_)))⟩)
    · rw [if_pos (kI.mpr (by omega))]
    · rw [if_neg (fun u => (kI.mp u) (by omega))]
theorem yt_adv0 (H : ew_yv g n e lb ek et ev la) (hok : ew_ok g lt W n e) (hp : (ew_L f n).Perm (ew_L e n)) (hs : ew_srt f n) {st0 : List ew_P × ew_R} (HG : ew_G g (ew_L f n) st0.1) {post : Int32 → SY → Prop} {x1 : Int32}
    (K : ∀ m q pk ps pe pv, ew_pa m q pk ps pe pv → ((ew_xl g f n).foldl (ew_fs 2 (fun z => ew_dc (z ≤ W)) g (ew_L f n)) st0).1.Perm (ew_L q m) → ∃ fu, wY_advance_82 post x1 (nI g) (nI lt) (nI W) (nI n) D ((ew_xl g f n).foldl (ew_fs 2 (fun z => ew_dc (z ≤ W)) g (ew_L f n)) st0).2.2.2.2.2.2 (nI m) fu 0 ek et ev la mk pk ps pe pv ((ew_xl g f n).foldl (ew_fs 2 (fun z => ew_dc (z ≤ W)) g (ew_L f n)) st0).2.1 ((ew_xl g f n).foldl (ew_fs 2 (fun z => ew_dc (z ≤ W)) g (ew_L f n)) st0).2.2.1 ((ew_xl g f n).foldl (ew_fs 2 (fun z => ew_dc (z ≤ W)) g (ew_L f n)) st0).2.2.2.1 ((ew_xl g f n).foldl (ew_fs 2 (fun z => ew_dc (z ≤ W)) g (ew_L f n)) st0).2.2.2.2.1 ((ew_xl g f n).foldl (ew_fs 2 (fun z => ew_dc (z ≤ W)) g (ew_L f n)) st0).2.2.2.2.2.1) :
    ∀ d x m q pk ps pe pv, x + d = (ew_xl g f n).length → ew_pa m q pk ps pe pv → (((ew_xl g f n).take x).foldl (ew_fs 2 (fun z => ew_dc (z ≤ W)) g (ew_L f n)) st0).1.Perm (ew_L q m) →
      wY_advance_34 post x1 (nI (ew_xl g f n).length) (d + 1) (nI x) (nI g) (nI lt) (nI W) (nI n) D (((ew_xl g f n).take x).foldl (ew_fs 2 (fun z => ew_dc (z ≤ W)) g (ew_L f n)) st0).2.2.2.2.2.2 (nI m) ek et ev la mk pk ps pe pv (((ew_xl g f n).take x).foldl (ew_fs 2 (fun z => ew_dc (z ≤ W)) g (ew_L f n)) st0).2.1 (((ew_xl g f n).take x).foldl (ew_fs 2 (fun z => ew_dc (z ≤ W)) g (ew_L f n)) st0).2.2.1 (((ew_xl g f n).take x).foldl (ew_fs 2 (fun z => ew_dc (z ≤ W)) g (ew_L f n)) st0).2.2.2.1 (((ew_xl g f n).take x).foldl (ew_fs 2 (fun z => ew_dc (z ≤ W)) g (ew_L f n)) st0).2.2.2.2.1 (((ew_xl g f n).take x).foldl (ew_fs 2 (fun z => ew_dc (z ≤ W)) g (ew_L f n)) st0).2.2.2.2.2.1 := by
  obtain ⟨o1, o2, o3, o4, o5, o6⟩ := id hok
  have hle : (ew_xl g f n).length ≤ n := by
    rw [ew_xl_l]
    exact ew_ct_le _ n
  intro d
  induction d with
  | zero =>
    intro x m q pk ps pe pv hx H1 H2
    rw [List.take_of_length_le (by omega)] at H2 ⊢
    exact br_t (nI_le (by omega) (by omega)) (K m q pk ps pe pv H1 H2)
  | succ d ih =>
    intro x m q pk ps pe pv hx H1 H2
    refine br_f (nI_ge (by omega) (by omega)) (ya_rp H hp hs (by omega) (fun r a b hr => br_f (nI_pos (by omega)) (ya_en H a b ?_)))
    have G1 : ew_G g (ew_L e n) (((ew_xl g f n).take x).foldl (ew_fs 2 (fun z => ew_dc (z ≤ W)) g (ew_L f n)) st0).1 :=
      ew_G_p hp (ew_ff_G o1 _ st0 (fun ks hk => ew_xl_O hs (Nat.le_refl _) (List.mem_of_mem_take hk)) HG)
    have bs := ew_okS hok (ew_ks_O (g := g) (e := e) a)
    have T := ew_tk (kd := 2) (t := fun z => ew_dc (z ≤ W)) (g := g) (E := ew_L f n) (st0 := st0) hr
    refine ek_if (nI_ltI (by omega) (by omega)) (fun z => nm_r (nI_1 x) ?_) (fun z => ya_fire H H1 H2 G1 a b (fun k pk ps pe pv q' h1 h2 => nm_r (nI_1 x) ?_))
    · have IH := ih (x + 1) m q pk ps pe pv (by omega) H1
      rw [T, ew_fs_n (fun u => by have := ew_dcI.mp u; rw [ew_ss_p hp] at this; omega)] at IH
      exact IH H2
    · have IH := ih (x + 1) k q' pk ps pe pv (by omega) h1
      rw [T, ew_fs_y (t := fun z => ew_dc (z ≤ W)) (ew_dcI.mpr (by rw [ew_ss_p hp]; omega)), ew_ss_p hp] at IH
      exact IH h2
theorem yt_adv (H : ew_yv g n e lb ek et ev la) (hok : ew_ok g lt W n e) (hp : (ew_L f n).Perm (ew_L e n)) (hs : ew_srt f n) {P : List ew_P} (HP : ew_pa m q pk ps pe pv) (hP : P.Perm (ew_L q m)) (HG : ew_G g (ew_L f n) P) {W' : Nat} (hW : W < W') (hW2 : W' ≤ 2100000) {post : Int32 → SY → Prop}
    (K : ∀ k c la lb ek et ev mk m' q' pk ps pe pv, ew_yv g k c lb ek et ev la → ew_L c k = (ew_L e n).filter (ew_kp g (ew_L e n) lt W') → ew_pa m' q' pk ps pe pv → (((ew_xl g f n).foldl (ew_fs 2 (fun z => ew_dc (z ≤ W')) g (ew_L f n)) (P, R)).1.filter (ew_pp g (ew_L e n) lt W')).Perm (ew_L q' m') → post (((ew_xl g f n).foldl (ew_fs 2 (fun z => ew_dc (z ≤ W')) g (ew_L f n)) (P, R)).2.2.2.2.2.2 - R.2.2.2.2.2) (nI g, nI lt, nI W', nI k, D, ((ew_xl g f n).foldl (ew_fs 2 (fun z => ew_dc (z ≤ W')) g (ew_L f n)) (P, R)).2.2.2.2.2.2, nI m', ek, et, ev, la, mk, pk, ps, pe, pv, ((ew_xl g f n).foldl (ew_fs 2 (fun z => ew_dc (z ≤ W')) g (ew_L f n)) (P, R)).2.1, ((ew_xl g f n).foldl (ew_fs 2 (fun z => ew_dc (z ≤ W')) g (ew_L f n)) (P, R)).2.2.1, ((ew_xl g f n).foldl (ew_fs 2 (fun z => ew_dc (z ≤ W')) g (ew_L f n)) (P, R)).2.2.2.1, ((ew_xl g f n).foldl (ew_fs 2 (fun z => ew_dc (z ≤ W')) g (ew_L f n)) (P, R)).2.2.2.2.1, ((ew_xl g f n).foldl (ew_fs 2 (fun z => ew_dc (z ≤ W')) g (ew_L f n)) (P, R)).2.2.2.2.2.1)) : wpY_advance post (nI g, nI lt, nI W, nI n, D, R.2.2.2.2.2, nI m, ek, et, ev, la, mk, pk, ps, pe, pv, R.1, R.2.1, R.2.2.1, R.2.2.2.1, R.2.2.2.2.1) (nI W') := by
  have hok' : ew_ok g lt W' n e := ⟨hok.1, hok.2.1, hok.2.2.1, hW2, hok.2.2.2.2⟩
  have h4 := hok.2.2.2.1
  refine br_f (nI_ge hW (by omega)) (br_t (nI_le (b := 2100000) hW2 (by omega)) (ya_sc H ?_))
  rw [ew_cnt hp hs H.1.1 H.2.2]
  refine ⟨(ew_xl g f n).length + 1, yt_adv0 H hok' hp hs (st0 := (P, R)) HG (fun m q pk ps pe pv h1 h2 => ⟨n + 1, ?_⟩) (ew_xl g f n).length 0 m q pk ps pe pv (by omega) HP hP⟩
  refine yt_82 H hok' (fun mk hmk => ⟨n + 1, ?_⟩) n 0 mk (by omega) (fun j a => by omega)
  refine yt_135 H hmk (P1 := ((ew_xl g f n).foldl (ew_fs 2 (fun z => ew_dc (z ≤ W')) g (ew_L f n)) (P, R)).1) (fun m q pk ps pe pv h3 h4 => ⟨n + 1, ?_⟩) n 0 m q pk ps pe pv (by omega) h1 (by rw [ew_FY_0]; exact h2)
  exact yt_184 (P1 := P) H.1 hmk (fun k c la lb ek et ev h5 h6 => K k c la lb ek et ev mk m q pk ps pe pv h5 h6 h3 h4) n 0 0 ek et ev e (by omega) (Nat.le_refl _) (fun j a => by omega) (fun j _ a => H.1.2.2.2.1 j a) rfl
/-- a pane's field -/
def ew_pf (y : ew_P) (z : Int32) : Int32 := if z = 1 then nI y.1 else if z = 2 then nI y.2.1 else if z = 3 then nI y.2.2.1 else if z = 4 then y.2.2.2 else -1
theorem yq_30 (H : ew_pa m q pk ps pe pv) {P : List ew_P} (hP : P.Perm (ew_L q m)) (hs : P.Pairwise ew_pl) (hi : i < m) (hk : k < m) {z : Int32} {post J : Int32 → Prop} (K : ∀ y, P[i]? = some y → post (ew_pf y z)) (KJ : ew_ct (fun j => ew_dc (ew_pl (q j) (q k))) m ≠ i → J (nI (k + 1))) :
    ∀ d x, x + d = m → wY_paneField_30 post J (nI i) z (nI k) (nI g) l w (nI n) D c (nI m) ek et ev la mk pk ps pe pv r1 r2 r3 r4 r5 (d + 1) (nI (ew_ct (fun j => ew_dc (ew_pl (q j) (q k))) x)) (nI x) := by
  have hm := H.1
  have vk : vp_in (nI k) 32 := vp_in_nI (by omega) (by omega)
  have ck : (nI k).toNatClampNeg = k := nI_clamp (by omega)
  have ak := (H.2 k hk).1
  obtain ⟨k1, k2, k3⟩ := (H.2 k hk).2
  intro d
  induction d with
  | zero =>
    intro x hx
    have hx' : x = m := by omega
    subst hx'
    have b1 := ew_ct_le (fun j => ew_dc (ew_pl (q j) (q k))) x
    refine br_t (nI_le (by omega) (by omega)) (ek_if (nI_eq (by omega) (by omega)) (fun u => ?_) (fun u => nm_r (nI_1 k) (KJ u)))
    have hy := K (q k) (ew_prankx hP hs hk u)
    rw [ck, ak.1, ak.2.1, ak.2.2.1, ak.2.2.2]
    unfold ew_pf at hy
    refine br_c (fun c1 => ⟨vk, ?_⟩) (fun c1 => br_c (fun c2 => ⟨vk, ?_⟩) (fun c2 => br_c (fun c3 => ⟨vk, ?_⟩) (fun c3 => br_c (fun c4 => ⟨vk, ?_⟩) (fun c4 => ?_))))
    · rw [if_pos c1] at hy
      exact hy
    · rw [if_neg c1, if_pos c2] at hy
      exact hy
    · rw [if_neg c1, if_neg c2, if_pos c3] at hy
      exact hy
    · rw [if_neg c1, if_neg c2, if_neg c3, if_pos c4] at hy
      exact hy
    · rw [if_neg c1, if_neg c2, if_neg c3, if_neg c4] at hy
      exact hy
  | succ d ih =>
    intro x hx
    have hx1 : x < m := by omega
    have vx : vp_in (nI x) 32 := vp_in_nI (by omega) (by omega)
    have cx : (nI x).toNatClampNeg = x := nI_clamp (by omega)
    have ax := (H.2 x hx1).1
    obtain ⟨x1, x2, x3⟩ := (H.2 x hx1).2
    have IH := ih (x + 1) (by omega)
    rw [ew_ct] at IH
    have plI : ew_pl (q x) (q k) ↔ ((q x).1 < (q k).1 ∨ ((q x).1 = (q k).1 ∧ (q x).2.1 < (q k).2.1)) := Iff.rfl
    refine br_f (nI_ge (by omega) (by omega)) ⟨vx, vk, ?_⟩
    rw [ck, cx, ak.1, ak.2.1, ax.1, ax.2.1]
    refine ek_if (nI_ltI (by omega) (by omega)) (fun u => nm_r (nI_1 _) (nm_r (nI_1 x) ?_)) (fun u => ⟨vx, vk, ek_if (nI_eq (by omega) (by omega)) (fun u2 => ⟨vx, vk, ek_if (nI_leI (by omega) (by omega)) (fun u3 => nm_r (nI_1 x) ?_) (fun u3 => nm_r (nI_1 _) (nm_r (nI_1 x) ?_))⟩) (fun u2 => nm_r (nI_1 x) ?_)⟩)
    · rw [if_pos (ew_dcI.mpr (plI.mpr (by omega)))] at IH
      exact IH
    · rw [if_neg (fun v => by have := plI.mp (ew_dcI.mp v); omega)] at IH
      exact IH
    · rw [if_pos (ew_dcI.mpr (plI.mpr (by omega)))] at IH
      exact IH
    · rw [if_neg (fun v => by have := plI.mp (ew_dcI.mp v); omega)] at IH
      exact IH
theorem yq_16 (H : ew_pa m q pk ps pe pv) {P : List ew_P} (hP : P.Perm (ew_L q m)) (hs : P.Pairwise ew_pl) (hi : i < m) {z : Int32} {post : Int32 → Prop} (K : ∀ y, P[i]? = some y → post (ew_pf y z)) :
    ∀ d k, k + d = m → (∀ j, j < k → ew_ct (fun x => ew_dc (ew_pl (q x) (q j))) m ≠ i) → wY_paneField_16 post (nI i) z (nI g) l w (nI n) D c (nI m) ek et ev la mk pk ps pe pv r1 r2 r3 r4 r5 (d + 1) (nI k) := by
  have hm := H.1
  intro d
  induction d with
  | zero =>
    intro k hk hno
    obtain ⟨y, hy, he⟩ := ew_ppx hP hs hi
    exact absurd he (hno y (by omega))
  | succ d ih =>
    intro k hk hno
    refine br_f (nI_ge (by omega) (by omega)) ⟨m + 1, yq_30 H hP hs hi (by omega) K (fun u => ih (k + 1) (by omega) (fun j a => ?_)) m 0 (by omega)⟩
    by_cases f : j = k
    · rw [f]
      exact u
    · exact hno j (by omega)
theorem yq_pane (H : ew_pa m q pk ps pe pv) {P : List ew_P} (hP : P.Perm (ew_L q m)) (hs : P.Pairwise ew_pl) (hi : i < m) {z : Int32} {post : Int32 → Prop} (K : ∀ y, P[i]? = some y → post (ew_pf y z)) : wpY_paneField post (nI g, l, w, nI n, D, c, nI m, ek, et, ev, la, mk, pk, ps, pe, pv, r1, r2, r3, r4, r5) (nI i) z := by
  have hm := H.1
  exact br_f (nI_pos (by omega)) (br_t (nI_lt hi (by omega)) ⟨m + 1, yq_16 H hP hs hi K m 0 (by omega) (fun j a => by omega)⟩)
end
end
section
/-! addEvent, and X's fields of sessions and panes -/
section
variable {g n m i j x k t lt W b : Nat} {l w D c v : Int32} {ak aT av ek et ev la mk pk ps pe pv r1 r2 r3 r4 r5 : Nat → Int32} {e f : Nat → ew_E} {lb : Nat → Nat} {p q : Nat → ew_P} {R : ew_R}
theorem xa_add (hok : ew_ok g lt W n e) (Hs : ew_srt e n) (hE : ew_aE n e ak aT av) (HP : ew_pa m p pk ps pe pv) (HG : ew_G g (ew_L e n) (ew_L p m)) (hk : k ≤ 7) (ht : t ≤ 1000000) (hv1 : ¬ v < -1000) (hv2 : v ≤ 1000) (hW : W ≤ t + lt) (hn : n < 32) {post : Int32 → SX → Prop}
    (K : ∀ b ak aT av m' p' R' pk ps pe pv, b ≤ n → ew_srt (ew_put e (k, t, v) b) (n + 1) → ew_aE (n + 1) (ew_put e (k, t, v) b) ak aT av → ew_pa m' p' pk ps pe pv → (ew_L p' m', R') = ew_fs 3 (fun z => ew_dc (z ≤ W)) g (ew_L (ew_put e (k, t, v) b) (n + 1)) (ew_L p m, R) (ew_ks g (ew_put e (k, t, v) b) (n + 1) b) → post (R'.2.2.2.2.2 - R.2.2.2.2.2) (nI g, nI lt, nI W, D, nI (n + 1), nI m', R'.2.2.2.2.2, ak, aT, av, pk, ps, pe, pv, R'.1, R'.2.1, R'.2.2.1, R'.2.2.2.1, R'.2.2.2.2.1)) : wpX_addEvent post (nI g, nI lt, nI W, D, nI n, nI m, R.2.2.2.2.2, ak, aT, av, pk, ps, pe, pv, R.1, R.2.1, R.2.2.1, R.2.2.2.1, R.2.2.2.2.1) (nI k) (nI t) v := by
  obtain ⟨o1, o2, o3, o4, o5, o6⟩ := id hok
  have H : ew_ev g n e ak aT av := ⟨o1, o2, o5, hE, o6⟩
  refine br_f (nI_pos (by omega)) (br_t (nI_le (b := 7) hk (by omega)) (br_f (nI_pos (by omega)) (br_t (nI_le (b := 1000000) ht (by omega)) (br_f hv1 (br_t hv2 (br_t ?_ (br_t (nI_lt (b := 32) hn (by omega)) ?_)))))))
  · rw [nI_add]
    exact nI_le hW (by omega)
  · refine xe_ins (s := (k, t, v)) H hn ⟨hk, ht⟩ (fun b ak aT av hb h1 h2 h3 => ?_)
    have Hs' : ew_srt (ew_put e (k, t, v) b) (n + 1) := ew_put_s Hs hb h1 (by
      rcases h2 with h2 | h2
      · exact Or.inl h2
      · refine Or.inr ?_
        unfold ew_ela at h2
        dsimp only at h2
        omega)
    have hb' : ∀ i, i < n + 1 → (ew_put e (k, t, v) b i).1 ≤ 7 ∧ (ew_put e (k, t, v) b i).2.1 ≤ 1000000 := by
      intro i hi
      by_cases a : i < b
      · rw [ew_put_a a]
        exact o6 i (by omega)
      · by_cases d : i = b
        · rw [d, ew_put_b]
          exact ⟨hk, ht⟩
        · rw [ew_put_c (show b < i by omega)]
          exact o6 (i - 1) (by omega)
    have hok' : ew_ok g lt W (n + 1) (ew_put e (k, t, v) b) := ⟨o1, o2, o3, o4, by omega, hb'⟩
    have H' : ew_ev g (n + 1) (ew_put e (k, t, v) b) ak aT av := ⟨o1, o2, by omega, h3, hb'⟩
    have HG' : ew_G g (ew_L (ew_put e (k, t, v) b) (n + 1)) (ew_L p m) := ew_add_G (fun x hx => (ew_put_p e (k, t, v) b n hb).mem_iff.mpr (List.mem_cons_of_mem _ hx)) HG
    refine xa_first H' (show b < n + 1 by omega) (fun i hi ho hno => ?_)
    have hks := ew_ksX Hs' (show b < n + 1 by omega) hi ho hno
    have K' := K b ak aT av
    rw [hks] at K'
    obtain ⟨q0, B⟩ := ew_bx (g := g) (e := ew_put e (k, t, v) b) (show i < n + 1 by omega)
    obtain ⟨S1, _⟩ := ew_sX Hs' o1 ho B
    have O := ew_opO Hs' (show i < n + 1 by omega) ho
    have bs := ew_okS (ks := ((ew_put e (k, t, v) b i).1, (ew_put e (k, t, v) b i).2.1)) hok' O
    have hend : (ew_put e (k, t, v) b (q0 - 1)).2.1 + g = (ew_ss g (ew_L (ew_put e (k, t, v) b) (n + 1)) ((ew_put e (k, t, v) b i).1, (ew_put e (k, t, v) b i).2.1)).2.2.1 := by rw [S1]
    refine xa_end H' B ?_
    rw [hend]
    refine ek_if (nI_ltI (by omega) (by omega)) (fun z => K' m p R pk ps pe pv hb Hs' h3 HP ?_) (fun z => xa_fire H' Hs' HP HG' (by omega) ho (fun k2 pk ps pe pv q' R' g1 g2 => K' k2 q' R' pk ps pe pv hb Hs' h3 g1 ?_))
    · rw [ew_fs_n]
      intro z2
      have := ew_dcI.mp z2
      omega
    · rw [g2, ew_fs_y (t := fun z => ew_dc (z ≤ W)) (ew_dcI.mpr (by omega))]
theorem yt_add (H : ew_yv g n f lb ek et ev la) (hok : ew_ok g lt W n f) (HP : ew_pa m q pk ps pe pv) {P : List ew_P} (hP : P.Perm (ew_L q m)) (HG : ew_G g (ew_L f n) P) (hk : k ≤ 7) (ht : t ≤ 1000000) (hv1 : ¬ v < -1000) (hv2 : v ≤ 1000) (hW : W ≤ t + lt) (hn : n < 32) {post : Int32 → SY → Prop}
    (K : ∀ f' ek et ev la lb m' q' pk ps pe pv, ew_L f' (n + 1) = ew_L f n ++ [(k, t, v)] → f' n = (k, t, v) → ew_yv g (n + 1) f' lb ek et ev la → ew_pa m' q' pk ps pe pv → (ew_fs 3 (fun z => ew_dc (z ≤ W)) g (ew_L f' (n + 1)) (P, R) (ew_ks g f' (n + 1) n)).1.Perm (ew_L q' m') → post ((ew_fs 3 (fun z => ew_dc (z ≤ W)) g (ew_L f' (n + 1)) (P, R) (ew_ks g f' (n + 1) n)).2.2.2.2.2.2 - R.2.2.2.2.2) (nI g, nI lt, nI W, nI (n + 1), D, (ew_fs 3 (fun z => ew_dc (z ≤ W)) g (ew_L f' (n + 1)) (P, R) (ew_ks g f' (n + 1) n)).2.2.2.2.2.2, nI m', ek, et, ev, la, mk, pk, ps, pe, pv, (ew_fs 3 (fun z => ew_dc (z ≤ W)) g (ew_L f' (n + 1)) (P, R) (ew_ks g f' (n + 1) n)).2.1, (ew_fs 3 (fun z => ew_dc (z ≤ W)) g (ew_L f' (n + 1)) (P, R) (ew_ks g f' (n + 1) n)).2.2.1, (ew_fs 3 (fun z => ew_dc (z ≤ W)) g (ew_L f' (n + 1)) (P, R) (ew_ks g f' (n + 1) n)).2.2.2.1, (ew_fs 3 (fun z => ew_dc (z ≤ W)) g (ew_L f' (n + 1)) (P, R) (ew_ks g f' (n + 1) n)).2.2.2.2.1, (ew_fs 3 (fun z => ew_dc (z ≤ W)) g (ew_L f' (n + 1)) (P, R) (ew_ks g f' (n + 1) n)).2.2.2.2.2.1)) : wpY_addEvent post (nI g, nI lt, nI W, nI n, D, R.2.2.2.2.2, nI m, ek, et, ev, la, mk, pk, ps, pe, pv, R.1, R.2.1, R.2.2.1, R.2.2.2.1, R.2.2.2.2.1) (nI k) (nI t) v := by
  obtain ⟨o1, o2, o3, o4, o5, o6⟩ := id hok
  obtain ⟨⟨hg, hg2, hn0, hE, hb⟩, hl, hlb⟩ := id H
  have vn : vp_in (nI n) 32 := vp_in_nI (by omega) (by omega)
  have cn : (nI n).toNatClampNeg = n := nI_clamp (by omega)
  refine br_f (nI_pos (by omega)) (br_t (nI_le (b := 7) hk (by omega)) (br_f (nI_pos (by omega)) (br_t (nI_le (b := 1000000) ht (by omega)) (br_f hv1 (br_t hv2 (br_t ?_ (br_t (nI_lt (b := 32) hn (by omega)) ⟨vn, nm_r (e' := upd ek n (nI k)) (by rw [cn]) ⟨vn, nm_r (e' := upd et n (nI t)) (by rw [cn]) ⟨vn, nm_r (e' := upd ev n v) (by rw [cn]) (nm_r (nI_1 n) ?_)⟩⟩⟩)))))))
  · rw [nI_add]
    exact nI_le hW (by omega)
  · have hn1 : (fun j => if j = n then (k, t, v) else f j) n = (k, t, v) := if_pos rfl
    have hL : ew_L (fun j => if j = n then (k, t, v) else f j) (n + 1) = ew_L f n ++ [(k, t, v)] := by
      have e1 : ew_L (fun j => if j = n then (k, t, v) else f j) n = ew_L f n := ew_Lc (fun j hj => if_neg (by omega))
      rw [ew_Ls, e1, if_pos rfl]
    have H' : ew_ev g (n + 1) (fun j => if j = n then (k, t, v) else f j) (upd ek n (nI k)) (upd et n (nI t)) (upd ev n v) := by
      refine ⟨hg, hg2, by omega, fun j hj => ?_, fun j hj => ?_⟩
      · dsimp only
        by_cases u : j = n
        · rw [u, if_pos rfl]
          exact ew_ae_s rfl rfl rfl
        · rw [if_neg u]
          exact ew_ae_n u (hE j (by omega))
      · dsimp only
        by_cases u : j = n
        · rw [if_pos u]
          exact ⟨hk, ht⟩
        · rw [if_neg u]
          exact hb j (by omega)
    generalize hf : (fun j => if j = n then (k, t, v) else f j) = f' at hn1 hL H'
    have hok' : ew_ok g lt W (n + 1) f' := ⟨o1, o2, o3, o4, by omega, H'.2.2.2.2⟩
    have HG' : ew_G g (ew_L f' (n + 1)) P := ew_add_G (fun x hx => by rw [hL]; exact List.mem_append.mpr (Or.inl hx)) HG
    refine yb_rel H' (fun la lb g1 g2 => ?_)
    have e1 : nI (n + 1) - 1 = nI n := nI_pred n
    have Y' : ew_yv g (n + 1) f' lb (upd ek n (nI k)) (upd et n (nI t)) (upd ev n v) la := ⟨H', g1, g2⟩
    have b2 := g2 n (by omega)
    have hks : ew_ks g f' (n + 1) (lb n) = ew_ks g f' (n + 1) n := ((ew_ks_i (by omega) b2.1).mpr b2.2.1).symm
    have bs := ew_okS hok' (ew_ks_O (g := g) (e := f') (show n < n + 1 by omega))
    have K' := K f' (upd ek n (nI k)) (upd et n (nI t)) (upd ev n v) la lb
    refine ⟨by rw [e1]; exact vn, nm_r (e' := nI (lb n)) (by rw [e1, cn]; exact g1 n (by omega)) (ya_en Y' b2.1 (ew_lab_i g2 (by omega)) ?_)⟩
    rw [hks]
    refine ek_if (nI_ltI (by omega) (by omega)) (fun z => ?_) (fun z => ya_fire Y' HP hP HG' b2.1 (ew_lab_i g2 (by omega)) (fun k2 pk ps pe pv q' h1 h2 => ?_))
    · have K2 := K' m q pk ps pe pv hL hn1 Y' HP
      rw [ew_fs_n (fun u => by have := ew_dcI.mp u; omega)] at K2
      exact K2 hP
    · have K2 := K' k2 q' pk ps pe pv hL hn1 Y' h1
      rw [ew_fs_y (t := fun z => ew_dc (z ≤ W)) (ew_dcI.mpr (by omega)), ← hks] at K2
      exact K2 h2
theorem xq_pane (H : ew_pa m p pk ps pe pv) (hi : i < m) {z : Int32} {post : Int32 → Prop} (hp : post (ew_pf (p i) z)) : wpX_paneField post (nI g, l, w, D, nI n, nI m, c, ak, aT, av, pk, ps, pe, pv, r1, r2, r3, r4, r5) (nI i) z := by
  have hm := H.1
  have vi : vp_in (nI i) 32 := vp_in_nI (by omega) (by omega)
  have ci : (nI i).toNatClampNeg = i := nI_clamp (by omega)
  have ai := (H.2 i hi).1
  refine br_f (nI_pos (by omega)) (br_t (nI_lt hi (by omega)) ?_)
  rw [ci, ai.1, ai.2.1, ai.2.2.1, ai.2.2.2]
  unfold ew_pf at hp
  by_cases c1 : z = 1
  · rw [if_pos c1] at hp
    subst c1
    exact br_f (by decide) (br_f (by decide) (br_t rfl ⟨vi, hp⟩))
  · by_cases c2 : z = 2
    · rw [if_neg c1, if_pos c2] at hp
      subst c2
      exact br_f (by decide) (br_f (by decide) (br_f c1 (br_t rfl ⟨vi, hp⟩)))
    · by_cases c3 : z = 3
      · rw [if_neg c1, if_neg c2, if_pos c3] at hp
        subst c3
        exact br_f (by decide) (br_f (by decide) (br_f c1 (br_f c2 (br_t rfl ⟨vi, hp⟩))))
      · by_cases c4 : z = 4
        · rw [if_neg c1, if_neg c2, if_neg c3, if_pos c4] at hp
          subst c4
          exact br_f (by decide) (br_f (by decide) (br_f c1 (br_f c2 (br_f c3 (br_t rfl ⟨vi, hp⟩)))))
        · rw [if_neg c1, if_neg c2, if_neg c3, if_neg c4] at hp
          exact br_c (fun _ => hp) (fun _ => br_c (fun _ => hp) (fun _ => br_f c1 (br_f c2 (br_f c3 (br_f c4 trivial)))))
/-- a session's field -/
def ew_sf (y : ew_P) (cn : Nat) (z : Int32) : Int32 := if z = 1 then nI y.1 else if z = 2 then nI y.2.1 else if z = 3 then nI y.2.2.1 else if z = 4 then y.2.2.2 else if z = 5 then nI cn else -1
theorem ew_xl_i : ∀ n j, j < (ew_xl g e n).length → ∃ i, i < n ∧ ew_op g e i ∧ (ew_xl g e i).length = j := by
  intro n
  induction n with
  | zero => intro j h; exact absurd h (Nat.not_lt_zero j)
  | succ n ih =>
    intro j h
    by_cases c : ew_op g e n
    · rw [ew_xl_y c, List.length_append] at h
      by_cases d : j < (ew_xl g e n).length
      · obtain ⟨i, h1, h2, h3⟩ := ih j d
        exact ⟨i, by omega, h2, h3⟩
      · refine ⟨n, by omega, c, ?_⟩
        have h' : j < (ew_xl g e n).length + 1 := h
        omega
    · rw [ew_xl_n c] at h
      obtain ⟨i, h1, h2, h3⟩ := ih j h
      exact ⟨i, by omega, h2, h3⟩
theorem xq_sess (H : ew_ev g n e ak aT av) (Hs : ew_srt e n) {y z : Int32} {post : Int32 → Prop}
    (h1 : ∀ x ks, y = nI x → x < (ew_xl g e n).length → (ew_xl g e n)[x]? = some ks → post (ew_sf (ew_ss g (ew_L e n) ks) (ew_sc g (ew_L e n) ks) z)) (h0 : (∀ x, x < (ew_xl g e n).length → y ≠ nI x) → post (-1)) : wpX_sessionField post (nI g, l, w, D, nI n, nI m, c, ak, aT, av, pk, ps, pe, pv, r1, r2, r3, r4, r5) y z := by
  obtain ⟨o1, o2, o3, hE, o6⟩ := id H
  refine xa_at H (fun i hi ho hy => br_t (nI_lt hi (by omega)) ?_) (fun hno => br_f (nI_nlt (Nat.le_refl n) (by omega)) (h0 (fun x hx hy => ?_)))
  · have vi : vp_in (nI i) 32 := vp_in_nI (by omega) (by omega)
    have ci : (nI i).toNatClampNeg = i := nI_clamp (by omega)
    obtain ⟨q0, B⟩ := ew_bx (g := g) (e := e) hi
    have B1 := B.1
    obtain ⟨S1, S2⟩ := ew_sX Hs o1 ho B
    have hg := ew_xl_g ho (n - (i + 1))
    rw [show i + 1 + (n - (i + 1)) = n by omega] at hg
    have hlt := (List.getElem?_eq_some_iff.mp hg).1
    have hp := h1 _ _ hy hlt hg
    rw [S1, S2] at hp
    unfold ew_sf at hp
    dsimp only at hp
    by_cases c1 : z = 1
    · rw [if_pos c1] at hp
      subst c1
      exact br_f (by decide) (br_f (by decide) (br_t rfl ⟨vi, by rw [ci, (hE i hi).1]; exact hp⟩))
    · by_cases c2 : z = 2
      · rw [if_neg c1, if_pos c2] at hp
        subst c2
        exact br_f (by decide) (br_f (by decide) (br_f c1 (br_t rfl ⟨vi, by rw [ci, (hE i hi).2.1]; exact hp⟩)))
      · by_cases c3 : z = 3
        · rw [if_neg c1, if_neg c2, if_pos c3] at hp
          subst c3
          exact br_f (by decide) (br_f (by decide) (br_f c1 (br_f c2 (br_t rfl (xa_end H B hp)))))
        · by_cases c4 : z = 4
          · rw [if_neg c1, if_neg c2, if_neg c3, if_pos c4] at hp
            subst c4
            exact br_f (by decide) (br_f (by decide) (br_f c1 (br_f c2 (br_f c3 (br_t rfl (xa_sum H B hp))))))
          · by_cases c5 : z = 5
            · rw [if_neg c1, if_neg c2, if_neg c3, if_neg c4, if_pos c5] at hp
              subst c5
              exact br_f (by decide) (br_f (by decide) (br_f c1 (br_f c2 (br_f c3 (br_f c4 (br_t rfl (xa_past H B (by rw [pk_sub (by omega)]; exact hp))))))))
            · rw [if_neg c1, if_neg c2, if_neg c3, if_neg c4, if_neg c5] at hp
              exact br_c (fun _ => hp) (fun _ => br_c (fun _ => hp) (fun _ => br_f c1 (br_f c2 (br_f c3 (br_f c4 (br_f c5 trivial))))))
  · obtain ⟨i, a1, a2, a3⟩ := ew_xl_i n x hx
    exact hno i a1 a2 (by rw [a3]; exact hy)
theorem yq_sess (H : ew_yv g n e lb ek et ev la) (hp : (ew_L f n).Perm (ew_L e n)) (hs : ew_srt f n) {x : Nat} {z : Int32} {ks : Nat × Nat} (hx : x < (ew_xl g f n).length) (hks : (ew_xl g f n)[x]? = some ks) {post : Int32 → Prop} (h : post (ew_sf (ew_ss g (ew_L f n) ks) (ew_sc g (ew_L f n) ks) z)) : wpY_sessionField post (nI g, l, w, nI n, D, c, nI m, ek, et, ev, la, mk, pk, ps, pe, pv, r1, r2, r3, r4, r5) (nI x) z := by
  obtain ⟨⟨hg, hg2, hn, hE, hb⟩, hl, hlb⟩ := id H
  have hle : (ew_xl g f n).length ≤ n := by
    rw [ew_xl_l]
    exact ew_ct_le _ n
  refine br_f (nI_pos (by omega)) (ya_sc H ?_)
  rw [ew_cnt hp hs hg hlb]
  refine br_t (nI_lt hx (by omega)) (ya_rp H hp hs hx (fun r a b hr => br_t (nI_pos' (by omega)) ?_))
  have e1 : ks = ew_ks g e n r := Option.some.inj (hks.symm.trans hr)
  rw [e1, ew_ss_p hp, ew_sc_p hp] at h
  have vr : vp_in (nI r) 32 := vp_in_nI (by omega) (by omega)
  have cr : (nI r).toNatClampNeg = r := nI_clamp (by omega)
  unfold ew_sf at h
  refine br_c (fun c1 => ⟨vr, ?_⟩) (fun c1 => br_c (fun c2 => ya_st H a b ?_) (fun c2 => br_c (fun c3 => ya_en H a b ?_) (fun c3 => br_c (fun c4 => ya_sm H a b ?_) (fun c4 => br_c (fun c5 => ya_ct H a b ?_) (fun c5 => ?_)))))
  · rw [if_pos c1] at h
    rw [cr, (hE r a).1]
    exact h
  · rw [if_neg c1, if_pos c2] at h
    exact h
  · rw [if_neg c1, if_neg c2, if_pos c3] at h
    exact h
  · rw [if_neg c1, if_neg c2, if_neg c3, if_pos c4] at h
    exact h
  · rw [if_neg c1, if_neg c2, if_neg c3, if_neg c4, if_pos c5] at h
    exact h
  · rw [if_neg c1, if_neg c2, if_neg c3, if_neg c4, if_neg c5] at h
    exact h
end
end
section
/-! the relation, and what is owed -/
section
theorem ew_srtL {e : Nat → ew_E} {n : Nat} : ew_srt e n ↔ (ew_L e n).Pairwise (fun a b => a.1 < b.1 ∨ (a.1 = b.1 ∧ a.2.1 ≤ b.2.1)) := by
  rw [ew_Lp]
  constructor
  · intro h i j hij hj
    exact h i j (by omega) hj
  · intro h i j hij hj
    by_cases c : i = j
    · subst c
      exact Or.inr ⟨rfl, Nat.le_refl _⟩
    · exact h i j (by omega) hj
end
/-- one picture of both states: X holds the events e sorted and the panes p sorted; Y holds the same events f and the same panes q in an order of its own, and labels lb; the records are the same -/
def i_Rel (_ : Nat) (u : SX) (v : SY) : Prop := ∃ (g lt W n m m2 : Nat) (D : Int32) (e f : Nat → ew_E) (lb : Nat → Nat) (p q : Nat → ew_P) (R : ew_R) (ak aT av pk ps pe pv ek et ev la mk pk' ps' pe' pv' : Nat → Int32),
  u = (nI g, nI lt, nI W, D, nI n, nI m, R.2.2.2.2.2, ak, aT, av, pk, ps, pe, pv, R.1, R.2.1, R.2.2.1, R.2.2.2.1, R.2.2.2.2.1) ∧ v = (nI g, nI lt, nI W, nI n, D, R.2.2.2.2.2, nI m2, ek, et, ev, la, mk, pk', ps', pe', pv', R.1, R.2.1, R.2.2.1, R.2.2.2.1, R.2.2.2.2.1) ∧ ew_ok g lt W n e ∧ ew_srt e n ∧ ew_aE n e ak aT av ∧ ew_pa m p pk ps pe pv ∧ ew_G g (ew_L e n) (ew_L p m) ∧ ew_yv g n f lb ek et ev la ∧ (ew_L e n).Perm (ew_L f n) ∧ ew_pa m2 q pk' ps' pe' pv' ∧ (ew_L p m).Perm (ew_L q m2)
theorem i_up {k : Nat} {u : SX} {v : SY} (h : i_Rel k u v) : i_Rel (k + 4) u v := h
theorem ew_cg (x : Int32) : ∃ g, 0 < g ∧ g ≤ 1000 ∧ ∀ P : Int32 → Prop, P (nI g) → ((1 ≤ x → ((x ≤ 1000 → P x) ∧ (¬ x ≤ 1000 → P 1000))) ∧ (¬ 1 ≤ x → P 1)) := by
  by_cases h1 : 1 ≤ x
  · by_cases h2 : x ≤ 1000
    · obtain ⟨j, hj, rfl⟩ := nI_of2 (M := 1000) (n := 1000) (by decide) (Int32.not_lt.mpr (Int32.le_trans (by decide) h1)) h2
      have h3 : 1 ≤ j := (nI_leI (a := 1) (by omega) (by omega)).mp h1
      exact ⟨j, by omega, hj, fun P hP => br_t h1 (br_t h2 hP)⟩
    · exact ⟨1000, by omega, by omega, fun P hP => br_t h1 (br_f h2 hP)⟩
  · exact ⟨1, by omega, by omega, fun P hP => br_f h1 hP⟩
theorem ew_cl0 (x : Int32) : ∃ g, g ≤ 1000 ∧ ∀ P : Int32 → Prop, P (nI g) → ((0 ≤ x → ((x ≤ 1000 → P x) ∧ (¬ x ≤ 1000 → P 1000))) ∧ (¬ 0 ≤ x → P 0)) := by
  by_cases h1 : 0 ≤ x
  · by_cases h2 : x ≤ 1000
    · obtain ⟨j, hj, rfl⟩ := nI_of2 (M := 1000) (n := 1000) (by decide) (Int32.not_lt.mpr h1) h2
      exact ⟨j, hj, fun P hP => br_t h1 (br_t h2 hP)⟩
    · exact ⟨1000, by omega, fun P hP => br_t h1 (br_f h2 hP)⟩
  · exact ⟨0, by omega, fun P hP => br_f h1 hP⟩
theorem i_vc0 (k0 : Int32) (k1 : Int32) : wpX_init (fun u => wpY_init (fun v => i_Rel 2 u v) k0 k1) k0 k1 := by
  obtain ⟨g, g1, g2, G⟩ := ew_cg k0
  obtain ⟨t, t1, T⟩ := ew_cl0 k1
  have z : ∀ {P : Nat → Prop} i, i < 0 → P i := fun i h => absurd h (Nat.not_lt_zero i)
  have Y1 : ∀ (pst : SY → Prop), pst (nI g, nI t, 0, 0, 0, 0, 0, (fun _ => 0), (fun _ => 0), (fun _ => 0), (fun _ => 0), (fun _ => 0), (fun _ => 0), (fun _ => 0), (fun _ => 0), (fun _ => 0), (fun _ => 0), (fun _ => 0), (fun _ => 0), (fun _ => 0), (fun _ => 0)) → wpY_init pst k0 k1 := fun pst h => G (fun r => wY_init_140 pst k1 r 0 0 0 0 0 0 0 (fun _ => 0) (fun _ => 0) (fun _ => 0) (fun _ => 0) (fun _ => 0) (fun _ => 0) (fun _ => 0) (fun _ => 0) (fun _ => 0) (fun _ => 0) (fun _ => 0) (fun _ => 0) (fun _ => 0) (fun _ => 0)) (T (fun r => pst (nI g, r, 0, 0, 0, 0, 0, (fun _ => 0), (fun _ => 0), (fun _ => 0), (fun _ => 0), (fun _ => 0), (fun _ => 0), (fun _ => 0), (fun _ => 0), (fun _ => 0), (fun _ => 0), (fun _ => 0), (fun _ => 0), (fun _ => 0), (fun _ => 0))) h)
  have X1 : ∀ (pst : SX → Prop), pst (nI g, nI t, 0, 0, 0, 0, 0, (fun _ => 0), (fun _ => 0), (fun _ => 0), (fun _ => 0), (fun _ => 0), (fun _ => 0), (fun _ => 0), (fun _ => 0), (fun _ => 0), (fun _ => 0), (fun _ => 0), (fun _ => 0)) → wpX_init pst k0 k1 := fun pst h => G (fun r1 => wpX_clamp (fun r2 => pst (r1, r2, 0, 0, 0, 0, 0, (fun _ => 0), (fun _ => 0), (fun _ => 0), (fun _ => 0), (fun _ => 0), (fun _ => 0), (fun _ => 0), (fun _ => 0), (fun _ => 0), (fun _ => 0), (fun _ => 0), (fun _ => 0))) k1 0 1000) (T (fun r2 => pst (nI g, r2, 0, 0, 0, 0, 0, (fun _ => 0), (fun _ => 0), (fun _ => 0), (fun _ => 0), (fun _ => 0), (fun _ => 0), (fun _ => 0), (fun _ => 0), (fun _ => 0), (fun _ => 0), (fun _ => 0), (fun _ => 0))) h)
  refine X1 _ (Y1 _ ?_)
  refine ⟨g, t, 0, 0, 0, 0, 0, fun _ => (0, 0, 0), fun _ => (0, 0, 0), fun _ => 0, fun _ => (0, 0, 0, 0), fun _ => (0, 0, 0, 0), ((fun _ => 0), (fun _ => 0), (fun _ => 0), (fun _ => 0), (fun _ => 0), 0), (fun _ => 0), (fun _ => 0), (fun _ => 0), (fun _ => 0), (fun _ => 0), (fun _ => 0), (fun _ => 0), (fun _ => 0), (fun _ => 0), (fun _ => 0), (fun _ => 0), (fun _ => 0), (fun _ => 0), (fun _ => 0), (fun _ => 0), (fun _ => 0), rfl, rfl, ⟨g1, g2, t1, by omega, by omega, z⟩, fun i j _ h => absurd h (Nat.not_lt_zero j), z, ⟨by omega, z⟩, ⟨List.Pairwise.nil, fun p hp => absurd hp List.not_mem_nil, Nat.zero_le _⟩, ⟨⟨g1, g2, by omega, z, z⟩, z, z⟩, List.Perm.refl _, ⟨by omega, z⟩, List.Perm.refl _⟩
section
variable {k : Nat} {u : SX} {v : SY}
theorem i_vc_gap {k : Nat} {u : SX} {v : SY} (I : i_Rel k u v) (hk : k + 4 ≤ 2050) : wpX_gap (fun r => wpY_gap (fun r' => r' = r ∧ i_Rel (k + 4) u v) v) u := by
  have J := I
  obtain ⟨g, lt, W, n, m, m2, D, e, f, lb, p, q, R, ak, aT, av, pk, ps, pe, pv, ek, et, ev, la, mk, pk', ps', pe', pv', rfl, rfl, _⟩ := I
  exact ⟨rfl, J⟩
theorem i_vc_lateness {k : Nat} {u : SX} {v : SY} (I : i_Rel k u v) (hk : k + 4 ≤ 2050) : wpX_lateness (fun r => wpY_lateness (fun r' => r' = r ∧ i_Rel (k + 4) u v) v) u := by
  have J := I
  obtain ⟨g, lt, W, n, m, m2, D, e, f, lb, p, q, R, ak, aT, av, pk, ps, pe, pv, ek, et, ev, la, mk, pk', ps', pe', pv', rfl, rfl, _⟩ := I
  exact ⟨rfl, J⟩
theorem i_vc_watermark {k : Nat} {u : SX} {v : SY} (I : i_Rel k u v) (hk : k + 4 ≤ 2050) : wpX_watermark (fun r => wpY_watermark (fun r' => r' = r ∧ i_Rel (k + 4) u v) v) u := by
  have J := I
  obtain ⟨g, lt, W, n, m, m2, D, e, f, lb, p, q, R, ak, aT, av, pk, ps, pe, pv, ek, et, ev, la, mk, pk', ps', pe', pv', rfl, rfl, _⟩ := I
  exact ⟨rfl, J⟩
theorem i_vc_storedEvents {k : Nat} {u : SX} {v : SY} (I : i_Rel k u v) (hk : k + 4 ≤ 2050) : wpX_storedEvents (fun r => wpY_storedEvents (fun r' => r' = r ∧ i_Rel (k + 4) u v) v) u := by
  have J := I
  obtain ⟨g, lt, W, n, m, m2, D, e, f, lb, p, q, R, ak, aT, av, pk, ps, pe, pv, ek, et, ev, la, mk, pk', ps', pe', pv', rfl, rfl, _⟩ := I
  exact ⟨rfl, J⟩
theorem i_vc_droppedCount {k : Nat} {u : SX} {v : SY} (I : i_Rel k u v) (hk : k + 4 ≤ 2050) : wpX_droppedCount (fun r => wpY_droppedCount (fun r' => r' = r ∧ i_Rel (k + 4) u v) v) u := by
  have J := I
  obtain ⟨g, lt, W, n, m, m2, D, e, f, lb, p, q, R, ak, aT, av, pk, ps, pe, pv, ek, et, ev, la, mk, pk', ps', pe', pv', rfl, rfl, _⟩ := I
  exact ⟨rfl, J⟩
theorem i_vc_recordCount {k : Nat} {u : SX} {v : SY} (I : i_Rel k u v) (hk : k + 4 ≤ 2050) : wpX_recordCount (fun r => wpY_recordCount (fun r' => r' = r ∧ i_Rel (k + 4) u v) v) u := by
  have J := I
  obtain ⟨g, lt, W, n, m, m2, D, e, f, lb, p, q, R, ak, aT, av, pk, ps, pe, pv, ek, et, ev, la, mk, pk', ps', pe', pv', rfl, rfl, _⟩ := I
  exact ⟨rfl, J⟩
theorem i_vc_paneCount {k : Nat} {u : SX} {v : SY} (I : i_Rel k u v) (hk : k + 4 ≤ 2050) : wpX_paneCount (fun r => wpY_paneCount (fun r' => r' = r ∧ i_Rel (k + 4) u v) v) u := by
  have J := I
  obtain ⟨g, lt, W, n, m, m2, D, e, f, lb, p, q, R, ak, aT, av, pk, ps, pe, pv, ek, et, ev, la, mk, pk', ps', pe', pv', rfl, rfl, hok, Hs, hE, HP, HG, HY, hp, HQ, hq⟩ := I
  have hm : m = m2 := by
    have := hq.length_eq
    rw [ew_Ll, ew_Ll] at this
    exact this
  exact ⟨congrArg nI hm.symm, J⟩
theorem i_vc_recordField {k : Nat} {u : SX} {v : SY} (I : i_Rel k u v) (hk : k + 4 ≤ 2050) (v1 : Int32) (v2 : Int32) : wpX_recordField (fun r => wpY_recordField (fun r' => r' = r ∧ i_Rel (k + 4) u v) v v1 v2) u v1 v2 := by
  have J := I
  obtain ⟨g, lt, W, n, m, m2, D, e, f, lb, p, q, R, ak, aT, av, pk, ps, pe, pv, ek, et, ev, la, mk, pk', ps', pe', pv', rfl, rfl, hok, Hs, hE, HP, HG, HY, hp, HQ, hq⟩ := I
  have w1 : vp_in (v1 &&& 63) 64 := pk_andIn _ 6 (by decide) (by decide)
  by_cases a : v1 < 0
  · exact br_t a (br_t a ⟨rfl, J⟩)
  by_cases b : R.2.2.2.2.2 ≤ v1
  · exact br_f a (br_t b (br_f a (br_t b ⟨rfl, J⟩)))
  by_cases c : R.2.2.2.2.2 - 64 ≤ v1
  · refine br_f a (br_f b (br_t c (nm_e ?_)))
    by_cases c0 : v2 = 0
    · subst c0
      exact br_f (by decide) (br_f (by decide) (br_t rfl ⟨w1, br_f a (br_f b (br_t c (nm_e (br_t rfl ⟨w1, rfl, J⟩))))⟩))
    by_cases c1 : v2 = 1
    · subst c1
      exact br_f (by decide) (br_f (by decide) (br_f c0 (br_t rfl ⟨w1, br_f a (br_f b (br_t c (nm_e (br_f c0 (br_t rfl ⟨w1, rfl, J⟩)))))⟩)))
    by_cases c2 : v2 = 2
    · subst c2
      exact br_f (by decide) (br_f (by decide) (br_f c0 (br_f c1 (br_t rfl ⟨w1, br_f a (br_f b (br_t c (nm_e (br_f c0 (br_f c1 (br_t rfl ⟨w1, rfl, J⟩))))))⟩))))
    by_cases c3 : v2 = 3
    · subst c3
      exact br_f (by decide) (br_f (by decide) (br_f c0 (br_f c1 (br_f c2 (br_t rfl ⟨w1, br_f a (br_f b (br_t c (nm_e (br_f c0 (br_f c1 (br_f c2 (br_t rfl ⟨w1, rfl, J⟩)))))))⟩)))))
    by_cases c4 : v2 = 4
    · subst c4
      exact br_f (by decide) (br_f (by decide) (br_f c0 (br_f c1 (br_f c2 (br_f c3 (br_t rfl ⟨w1, br_f a (br_f b (br_t c (nm_e (br_f c0 (br_f c1 (br_f c2 (br_f c3 (br_t rfl ⟨w1, rfl, J⟩))))))))⟩))))))
    have Y : wpY_recordField (fun r' => r' = -1 ∧ i_Rel (k + 4) _ _) (nI g, nI lt, nI W, nI n, D, R.2.2.2.2.2, nI m2, ek, et, ev, la, mk, pk', ps', pe', pv', R.1, R.2.1, R.2.2.1, R.2.2.2.1, R.2.2.2.2.1) v1 v2 := br_f a (br_f b (br_t c (nm_e (br_f c0 (br_f c1 (br_f c2 (br_f c3 (br_f c4 ⟨rfl, J⟩))))))))
    exact br_c (fun _ => Y) (fun _ => br_c (fun _ => Y) (fun _ => br_f c0 (br_f c1 (br_f c2 (br_f c3 (br_f c4 trivial))))))
  · exact br_f a (br_f b (br_f c (br_f a (br_f b (br_f c ⟨rfl, J⟩)))))
theorem i_vc_sessionCount {k : Nat} {u : SX} {v : SY} (I : i_Rel k u v) (hk : k + 4 ≤ 2050) : wpX_sessionCount (fun r => wpY_sessionCount (fun r' => r' = r ∧ i_Rel (k + 4) u v) v) u := by
  have J := I
  obtain ⟨g, lt, W, n, m, m2, D, e, f, lb, p, q, R, ak, aT, av, pk, ps, pe, pv, ek, et, ev, la, mk, pk', ps', pe', pv', rfl, rfl, hok, Hs, hE, HP, HG, HY, hp, HQ, hq⟩ := I
  have H : ew_ev g n e ak aT av := ⟨hok.1, hok.2.1, hok.2.2.2.2.1, hE, hok.2.2.2.2.2⟩
  exact xa_sc H (ya_sc HY ⟨by rw [ew_cnt hp Hs hok.1 HY.2.2], J⟩)
theorem i_vc_sessionField {k : Nat} {u : SX} {v : SY} (I : i_Rel k u v) (hk : k + 4 ≤ 2050) (v1 : Int32) (v2 : Int32) : wpX_sessionField (fun r => wpY_sessionField (fun r' => r' = r ∧ i_Rel (k + 4) u v) v v1 v2) u v1 v2 := by
  have J := I
  obtain ⟨g, lt, W, n, m, m2, D, e, f, lb, p, q, R, ak, aT, av, pk, ps, pe, pv, ek, et, ev, la, mk, pk', ps', pe', pv', rfl, rfl, hok, Hs, hE, HP, HG, HY, hp, HQ, hq⟩ := I
  have H : ew_ev g n e ak aT av := ⟨hok.1, hok.2.1, hok.2.2.2.2.1, hE, hok.2.2.2.2.2⟩
  have hn := hok.2.2.2.2.1
  have hle : (ew_xl g e n).length ≤ n := by
    rw [ew_xl_l]
    exact ew_ct_le _ n
  refine xq_sess H Hs (fun x ks hx h1 h2 => ?_) (fun hno => ?_)
  · subst hx
    exact yq_sess HY hp Hs h1 h2 ⟨rfl, J⟩
  · by_cases a : v1 < 0
    · exact br_t a ⟨rfl, J⟩
    · obtain ⟨j, hj, rfl⟩ := nI_of a
      refine br_f a (ya_sc HY ?_)
      rw [ew_cnt hp Hs hok.1 HY.2.2]
      refine br_f (fun z => ?_) ⟨rfl, J⟩
      exact hno j ((nI_ltI hj (by omega)).mp z) rfl
theorem i_vc_paneField {k : Nat} {u : SX} {v : SY} (I : i_Rel k u v) (hk : k + 4 ≤ 2050) (v1 : Int32) (v2 : Int32) : wpX_paneField (fun r => wpY_paneField (fun r' => r' = r ∧ i_Rel (k + 4) u v) v v1 v2) u v1 v2 := by
  have J := I
  obtain ⟨g, lt, W, n, m, m2, D, e, f, lb, p, q, R, ak, aT, av, pk, ps, pe, pv, ek, et, ev, la, mk, pk', ps', pe', pv', rfl, rfl, hok, Hs, hE, HP, HG, HY, hp, HQ, hq⟩ := I
  have hm : m = m2 := by
    have := hq.length_eq
    rw [ew_Ll, ew_Ll] at this
    exact this
  have hm32 := HP.1
  subst hm
  by_cases a : v1 < 0
  · exact br_t a (br_t a ⟨rfl, J⟩)
  · obtain ⟨j, hj, rfl⟩ := nI_of a
    by_cases b : j < m
    · refine xq_pane HP b (yq_pane HQ hq HG.1 b (fun y hy => ⟨?_, J⟩))
      rw [ew_Lg b] at hy
      rw [Option.some.inj hy]
    · have b' : ¬ nI j < nI m := nI_nlt (by omega) hj
      exact br_f a (br_f b' (br_f a (br_f b' ⟨rfl, J⟩)))
theorem i_vc_early {k : Nat} {u : SX} {v : SY} (I : i_Rel k u v) (hk : k + 4 ≤ 2050) : wpX_early (fun r u' => wpY_early (fun r' v' => r' = r ∧ i_Rel (k + 4) u' v') v) u := by
  obtain ⟨g, lt, W, n, m, m2, D, e, f, lb, p, q, R, ak, aT, av, pk, ps, pe, pv, ek, et, ev, la, mk, pk', ps', pe', pv', rfl, rfl, hok, Hs, hE, HP, HG, HY, hp, HQ, hq⟩ := I
  refine xa_ear hok Hs hE HP HG (fun m' p' R' pk ps pe pv h1 h2 => yt_ear HY (ew_ok_p hok hp) hp Hs HQ hq HG (fun m'' q' pk' ps' pe' pv' h3 h4 => ?_))
  have G1 := ew_ff_G (kd := 1) (t := fun z => ew_dc (¬ z ≤ W)) hok.1 (ew_xl g e n) (ew_L p m, R) (fun ks hk => ew_xl_O Hs (Nat.le_refl _) hk) HG
  rw [← h2] at h4 G1 ⊢
  exact ⟨rfl, g, lt, W, n, m', m'', D, e, f, lb, p', q', R', ak, aT, av, pk, ps, pe, pv, ek, et, ev, la, mk, pk', ps', pe', pv', rfl, rfl, hok, Hs, hE, h1, G1, HY, hp, h3, h4⟩
theorem i_vc_advance {k : Nat} {u : SX} {v : SY} (I : i_Rel k u v) (hk : k + 4 ≤ 2050) (v1 : Int32) : wpX_advance (fun r u' => wpY_advance (fun r' v' => r' = r ∧ i_Rel (k + 4) u' v') v v1) u v1 := by
  have J := I
  obtain ⟨g, lt, W, n, m, m2, D, e, f, lb, p, q, R, ak, aT, av, pk, ps, pe, pv, ek, et, ev, la, mk, pk', ps', pe', pv', rfl, rfl, hok, Hs, hE, HP, HG, HY, hp, HQ, hq⟩ := I
  have hW0 := hok.2.2.2.1
  by_cases a : v1 ≤ nI W
  · exact br_t a (br_t a ⟨rfl, J⟩)
  by_cases b : v1 ≤ 2100000
  · have a0 : ¬ v1 < 0 := fun z => a (Int32.le_trans (Int32.le_of_lt z) (nI_pos' (by omega)))
    obtain ⟨W', hW', rfl⟩ := nI_of2 (M := 2100000) (n := 2100000) (by decide) a0 b
    have hlt : W < W' := Nat.not_le.mp fun z => a (nI_le z (by omega))
    refine xa_adv hok Hs hE HP HG hlt hW' (fun nc mc c p' R' ak aT av pk ps pe pv h1 h2 h3 h4 => yt_adv HY (ew_ok_p hok hp) hp Hs HQ hq HG hlt hW' (fun kc c2 la lb ek et ev mk m' q' pk' ps' pe' pv' h5 h6 h7 h8 => ?_))
    have G1 := ew_ff_G (kd := 2) (t := fun z => ew_dc (z ≤ W')) hok.1 (ew_xl g e n) (ew_L p m, R) (fun ks hk => ew_xl_O Hs (Nat.le_refl _) hk) HG
    have G2 := ew_exp_G (l := lt) (W := W') G1
    have e1 := congrArg Prod.fst h4
    have e2 := congrArg Prod.snd h4
    dsimp only at e1 e2
    rw [← e1, ← h2] at G2
    rw [← ew_pp_p hp, ← e1] at h8
    have hperm : (ew_L c nc).Perm (ew_L c2 kc) := by
      rw [h2, h6, ew_kp_p hp]
      exact hp.filter _
    have hn : nc = kc := by
      have := hperm.length_eq
      rw [ew_Ll, ew_Ll] at this
      exact this
    subst hn
    have hnc : nc ≤ n := by
      have := List.length_filter_le (ew_kp g (ew_L e n) lt W') (ew_L e n)
      rw [← h2, ew_Ll, ew_Ll] at this
      exact this
    have hok' : ew_ok g lt W' nc c := by
      obtain ⟨o1, o2, o3, o4, o5, o6⟩ := id hok
      refine ⟨o1, o2, o3, hW', by omega, fun i hi => ?_⟩
      have hm : c i ∈ (ew_L e n).filter (ew_kp g (ew_L e n) lt W') := by
        rw [← h2]
        exact ew_Lm.mpr ⟨i, hi, rfl⟩
      obtain ⟨t, ht, z⟩ := ew_Lm.mp (List.mem_filter.mp hm).1
      rw [← z]
      exact o6 t ht
    have Hs' : ew_srt c nc := by
      rw [ew_srtL, h2]
      exact List.Pairwise.filter _ (ew_srtL.mp Hs)
    rw [← e2]
    exact ⟨rfl, g, lt, W', nc, mc, m', D, c, c2, lb, p', q', R', ak, aT, av, pk, ps, pe, pv, ek, et, ev, la, mk, pk', ps', pe', pv', rfl, rfl, hok', Hs', h1, h3, G2, h5, hperm, h7, h8⟩
  · exact br_f a (br_f b (br_f a (br_f b ⟨rfl, J⟩)))
theorem i_vc_addEvent {k : Nat} {u : SX} {v : SY} (I : i_Rel k u v) (hk : k + 4 ≤ 2050) (v1 : Int32) (v2 : Int32) (v3 : Int32) : wpX_addEvent (fun r u' => wpY_addEvent (fun r' v' => r' = r ∧ i_Rel (k + 4) u' v') v v1 v2 v3) u v1 v2 v3 := by
  have J := I
  obtain ⟨g, lt, W, n, m, m2, D, e, f, lb, p, q, R, ak, aT, av, pk, ps, pe, pv, ek, et, ev, la, mk, pk', ps', pe', pv', rfl, rfl, hok, Hs, hE, HP, HG, HY, hp, HQ, hq⟩ := I
  obtain ⟨o1, o2, o3, o4, o5, o6⟩ := id hok
  by_cases a1 : v1 < 0
  · exact br_t a1 (br_t a1 ⟨rfl, J⟩)
  by_cases a2 : v1 ≤ 7
  rotate_left
  · exact br_f a1 (br_f a2 (br_f a1 (br_f a2 ⟨rfl, J⟩)))
  by_cases b1 : v2 < 0
  · exact br_f a1 (br_t a2 (br_t b1 (br_f a1 (br_t a2 (br_t b1 ⟨rfl, J⟩)))))
  by_cases b2 : v2 ≤ 1000000
  rotate_left
  · exact br_f a1 (br_t a2 (br_f b1 (br_f b2 (br_f a1 (br_t a2 (br_f b1 (br_f b2 ⟨rfl, J⟩)))))))
  by_cases c1 : v3 < -1000
  · exact br_f a1 (br_t a2 (br_f b1 (br_t b2 (br_t c1 (br_f a1 (br_t a2 (br_f b1 (br_t b2 (br_t c1 ⟨rfl, J⟩)))))))))
  by_cases c2 : v3 ≤ 1000
  rotate_left
  · exact br_f a1 (br_t a2 (br_f b1 (br_t b2 (br_f c1 (br_f c2 (br_f a1 (br_t a2 (br_f b1 (br_t b2 (br_f c1 (br_f c2 ⟨rfl, J⟩)))))))))))
  by_cases d1 : nI W ≤ v2 + nI lt
  rotate_left
  · exact br_f a1 (br_t a2 (br_f b1 (br_t b2 (br_f c1 (br_t c2 (br_f d1 (nm_e (br_f a1 (br_t a2 (br_f b1 (br_t b2 (br_f c1 (br_t c2 (br_f d1 (nm_e ⟨rfl, g, lt, W, n, m, m2, D + 1, e, f, lb, p, q, R, ak, aT, av, pk, ps, pe, pv, ek, et, ev, la, mk, pk', ps', pe', pv', rfl, rfl, hok, Hs, hE, HP, HG, HY, hp, HQ, hq⟩)))))))))))))))
  by_cases d2 : n < 32
  rotate_left
  · have d3 : ¬ nI n < 32 := nI_nlt (b := 32) (by omega) (by omega)
    exact br_f a1 (br_t a2 (br_f b1 (br_t b2 (br_f c1 (br_t c2 (br_t d1 (br_f d3 (br_f a1 (br_t a2 (br_f b1 (br_t b2 (br_f c1 (br_t c2 (br_t d1 (br_f d3 ⟨rfl, J⟩)))))))))))))))
  obtain ⟨kk, hkk, rfl⟩ := nI_of2 (M := 7) (n := 7) (by decide) a1 a2
  obtain ⟨tt, htt, rfl⟩ := nI_of2 (M := 1000000) (n := 1000000) (by decide) b1 b2
  have hW : W ≤ tt + lt := by
    rw [nI_add] at d1
    exact (nI_leI (by omega) (by omega)).mp d1
  refine xa_add hok Hs hE HP HG hkk htt c1 c2 hW d2 (fun b ak aT av m' p' R' pk ps pe pv g1 g2 g3 g4 g5 => yt_add HY (ew_ok_p hok hp) HQ hq (ew_G_p hp HG) hkk htt c1 c2 hW d2 (fun f' ek et ev la lb m'' q' pk' ps' pe' pv' h1 h2 h3 h4 h5 => ?_))
  have hperm : (ew_L (ew_put e (kk, tt, v3) b) (n + 1)).Perm (ew_L f' (n + 1)) := by
    rw [h1]
    exact (ew_put_p e (kk, tt, v3) b n g1).trans ((hp.cons _).trans (List.perm_append_singleton _ _).symm)
  have hks : ew_ks g f' (n + 1) n = ew_ks g (ew_put e (kk, tt, v3) b) (n + 1) b := by
    unfold ew_ks
    rw [h2, ew_put_b, ew_Mp hperm]
  have hfs : ew_fs 3 (fun z => ew_dc (z ≤ W)) g (ew_L f' (n + 1)) = ew_fs 3 (fun z => ew_dc (z ≤ W)) g (ew_L (ew_put e (kk, tt, v3) b) (n + 1)) := by
    funext st ks
    unfold ew_fs
    rw [ew_ss_p hperm]
  rw [hfs, hks, ← g5] at h5 ⊢
  have hok' : ew_ok g lt W (n + 1) (ew_put e (kk, tt, v3) b) := by
    refine ⟨o1, o2, o3, o4, by omega, fun i hi => ?_⟩
    by_cases a : i < b
    · rw [ew_put_a a]
      exact o6 i (by omega)
    · by_cases d : i = b
      · rw [d, ew_put_b]
        exact ⟨hkk, htt⟩
      · rw [ew_put_c (show b < i by omega)]
        exact o6 (i - 1) (by omega)
  have HG' : ew_G g (ew_L (ew_put e (kk, tt, v3) b) (n + 1)) (ew_L p m) := ew_add_G (fun x hx => (ew_put_p e (kk, tt, v3) b n g1).mem_iff.mpr (List.mem_cons_of_mem _ hx)) HG
  have G1 := ew_fs_G (kd := 3) (t := fun z => ew_dc (z ≤ W)) (st := (ew_L p m, R)) o1 (ew_ks_O (g := g) (e := ew_put e (kk, tt, v3) b) (show b < n + 1 by omega)) HG'
  rw [← g5] at G1
  exact ⟨rfl, g, lt, W, n + 1, m', m'', D, ew_put e (kk, tt, v3) b, f', lb, p', q', R', ak, aT, av, pk, ps, pe, pv, ek, et, ev, la, mk, pk', ps', pe', pv', rfl, rfl, hok', g2, g3, g4, G1, h3, hperm, h4, h5⟩
end
end
