-- rows of the kit, pasted
theorem pk_us {f : Nat → Int32} {k : Nat} {x : Int32} : upd f k x k = x := if_pos rfl
theorem pk_un {f : Nat → Int32} {k j : Nat} {x : Int32} (h : j ≠ k) : upd f k x j = f j := if_neg h
theorem pk_mul (a b : Nat) : nI a * nI b = nI (a * b) := (Int32.ofNat_mul a b).symm
theorem pk_ix (x : Int32) {n : Nat} (hn : n < 2 ^ 31) : x < 0 ∨ nI n ≤ x ∨ ∃ j : Nat, j < n ∧ x = nI j := by
  by_cases h : x < 0
  · exact Or.inl h
  · obtain ⟨j, hj, rfl⟩ := nI_of h
    by_cases h2 : j < n
    · exact Or.inr (Or.inr ⟨j, h2, rfl⟩)
    · exact Or.inr (Or.inl (nI_le (by omega) hj))
theorem pk_le {x y : Int32} {A B : Prop} (a b : Nat) (f : a ≤ b → A) (g : b < a → B) (hx : x = nI a := by rfl) (hy : y = nI b := by rfl) (ha : a < 2 ^ 31 := by omega) (hb : b < 2 ^ 31 := by omega) : (x ≤ y → A) ∧ (¬ x ≤ y → B) := by
  subst hx hy
  rw [nI_leI ha hb]
  exact ⟨f, fun z => g (by omega)⟩
theorem pk_lt {x y : Int32} {A B : Prop} (a b : Nat) (f : a < b → A) (g : b ≤ a → B) (hx : x = nI a := by rfl) (hy : y = nI b := by rfl) (ha : a < 2 ^ 31 := by omega) (hb : b < 2 ^ 31 := by omega) : (x < y → A) ∧ (¬ x < y → B) := by
  subst hx hy
  rw [nI_ltI ha hb]
  exact ⟨f, fun z => g (by omega)⟩
theorem pk_eq {x y : Int32} {A B : Prop} (a b : Nat) (f : a = b → A) (g : a ≠ b → B) (hx : x = nI a := by rfl) (hy : y = nI b := by rfl) (ha : a < 2 ^ 31 := by omega) (hb : b < 2 ^ 31 := by omega) : (x = y → A) ∧ (¬ x = y → B) := by
  subst hx hy
  rw [nI_eq ha hb]
  exact ⟨f, g⟩
theorem pk_in {x : Int32} (n N : Nat) (h : n < N) (hx : x = nI n := by rfl) (hN : N < 2 ^ 31 := by omega) : vp_in x N := by
  subst hx
  exact vp_in_nI h hN
theorem pk_cl {x : Int32} (n : Nat) (hx : x = nI n := by rfl) (h : n < 2 ^ 31 := by omega) : x.toNatClampNeg = n := by
  subst hx
  exact nI_clamp h
theorem nx_and (a b : Nat) : nI a &&& nI b = nI (a &&& b) := by
  apply Int32.toBitVec_inj.1
  show BitVec.ofNat 32 a &&& BitVec.ofNat 32 b = BitVec.ofNat 32 (a &&& b)
  apply BitVec.eq_of_getLsbD_eq
  intro i hi
  simp [hi]
-- numbers
def tc_b (b : Bool) : Int32 := cond b 1 0
theorem tc_br {b : Bool} {A B : Prop} (f : b = false → A) (g : b = true → B) : (tc_b b = 0 → A) ∧ (¬ tc_b b = 0 → B) := by
  cases b with
  | false => exact br_t rfl (f rfl)
  | true => exact br_f (by decide) (g rfl)
theorem tc_lt {i : Nat} (h : i < 128) : ¬ (128 : Int32) ≤ nI i := nI_ge (b := 128) h (by decide)
theorem tc_ge : (128 : Int32) ≤ nI 128 := by decide +kernel
theorem tc_lt7 {i : Nat} (h : i < 7) : ¬ (7 : Int32) ≤ nI i := nI_ge (b := 7) h (by decide)
theorem tc_ge7 : (7 : Int32) ≤ nI 7 := by decide +kernel
theorem tc_nar (b : Bool) : narrow .boolean (.int (tc_b b)) = .int (tc_b b) := by
  cases b with
  | false => exact lw_bz_n 0
  | true => exact lw_bz_n 1
theorem tc_vnar (b : Bool) : vp_nar .boolean (tc_b b) = tc_b b := by
  have h := tc_nar b
  unfold vp_nar
  rw [h]
theorem tc_ix (t g : Nat) : (128 : Int32) * nI t + nI g = nI (128 * t + g) := by
  show nI 128 * nI t + nI g = _
  rw [pk_mul, nI_add]
theorem tc_ix1 (g : Nat) : (128 : Int32) + nI g = nI (128 + g) := nI_add 128 g
-- pictures
def tc_sf (g : Nat) : Nat → Nat → Nat
  | 0, _ => 0
  | d + 1, m => g / 2 ^ m % 2 + tc_sf g d (m + 1)
def tc_sz (g : Nat) : Nat := tc_sf g 7 0
def tc_cr (g h : Nat) : Bool := !(g &&& h == 0) && (!(g &&& h == g) && !(g &&& h == h))
def tc_gv (g : Nat) : Bool := tc_sz g == 1 || g == 127
def tc_cn (p : Nat → Bool) : Nat → Nat → Nat
  | 0, _ => 0
  | d + 1, i => (p i).toNat + tc_cn p d (i + 1)
def tc_al (p : Nat → Bool) : Nat → Nat → Bool
  | 0, _ => true
  | d + 1, i => p i && tc_al p d (i + 1)
def tc_ex (p : Nat → Bool) : Nat → Nat → Bool
  | 0, _ => false
  | d + 1, i => p i || tc_ex p d (i + 1)
def tc_fi (p : Nat → Bool) (f : Nat → Nat) (z : Nat) : Nat → Nat → Nat
  | 0, _ => z
  | d + 1, i => cond (p i) (f i) (tc_fi p f z d (i + 1))
theorem tc_al_iff (p : Nat → Bool) : ∀ d i, tc_al p d i = true ↔ ∀ j, i ≤ j → j < i + d → p j = true := by
  intro d
  induction d with
  | zero => intro i; exact ⟨fun _ j h1 h2 => absurd h2 (by omega), fun _ => rfl⟩
  | succ d ih =>
    intro i
    show (p i && tc_al p d (i + 1)) = true ↔ _
    rw [Bool.and_eq_true, ih (i + 1)]
    constructor
    · intro h j h1 h2
      rcases Nat.eq_or_lt_of_le h1 with e | e
      · rw [← e]; exact h.1
      · exact h.2 j e (by omega)
    · intro h
      exact ⟨h i (Nat.le_refl _) (by omega), fun j h1 h2 => h j (by omega) (by omega)⟩
theorem tc_ex_iff (p : Nat → Bool) : ∀ d i, tc_ex p d i = true ↔ ∃ j, i ≤ j ∧ j < i + d ∧ p j = true := by
  intro d
  induction d with
  | zero => intro i; exact ⟨fun h => absurd h (by intro z; cases z), fun h => by obtain ⟨j, h1, h2, _⟩ := h; omega⟩
  | succ d ih =>
    intro i
    show (p i || tc_ex p d (i + 1)) = true ↔ _
    rw [Bool.or_eq_true, ih (i + 1)]
    constructor
    · intro h
      rcases h with h | h
      · exact ⟨i, Nat.le_refl _, by omega, h⟩
      · obtain ⟨j, h1, h2, h3⟩ := h
        exact ⟨j, by omega, by omega, h3⟩
    · intro h
      obtain ⟨j, h1, h2, h3⟩ := h
      rcases Nat.eq_or_lt_of_le h1 with e | e
      · left; rw [e]; exact h3
      · right; exact ⟨j, e, by omega, h3⟩
theorem tc_cn_le (p : Nat → Bool) : ∀ d i, tc_cn p d i ≤ d := by
  intro d
  induction d with
  | zero => intro i; exact Nat.le_refl _
  | succ d ih =>
    intro i
    show (p i).toNat + tc_cn p d (i + 1) ≤ d + 1
    have h1 := ih (i + 1)
    have h2 : (p i).toNat ≤ 1 := by cases p i <;> decide
    omega
theorem tc_cn_0 (p : Nat → Bool) : ∀ d i, tc_cn p d i = 0 ↔ tc_al (fun j => !p j) d i = true := by
  intro d
  induction d with
  | zero => intro i; exact ⟨fun _ => rfl, fun _ => rfl⟩
  | succ d ih =>
    intro i
    show (p i).toNat + tc_cn p d (i + 1) = 0 ↔ (!p i && tc_al (fun j => !p j) d (i + 1)) = true
    rw [Bool.and_eq_true, ← ih (i + 1)]
    cases p i with
    | false => simp
    | true => simp
theorem tc_cn_cg {p q : Nat → Bool} : ∀ d i, (∀ j, i ≤ j → j < i + d → p j = q j) → tc_cn p d i = tc_cn q d i := by
  intro d
  induction d with
  | zero => intro i _; rfl
  | succ d ih =>
    intro i h
    show (p i).toNat + tc_cn p d (i + 1) = (q i).toNat + tc_cn q d (i + 1)
    rw [h i (Nat.le_refl _) (by omega), ih (i + 1) (fun j h1 h2 => h j (by omega) (by omega))]
theorem tc_fi_c (p : Nat → Bool) (f : Nat → Nat) (z : Nat) : ∀ d i, (tc_fi p f z d i = z ∧ ∀ j, i ≤ j → j < i + d → p j = false) ∨ (∃ g, i ≤ g ∧ g < i + d ∧ p g = true ∧ tc_fi p f z d i = f g ∧ ∀ j, i ≤ j → j < g → p j = false) := by
  intro d
  induction d with
  | zero => intro i; exact Or.inl ⟨rfl, fun j h1 h2 => absurd h2 (by omega)⟩
  | succ d ih =>
    intro i
    show (cond (p i) (f i) (tc_fi p f z d (i + 1)) = z ∧ _) ∨ (∃ g, i ≤ g ∧ g < i + (d + 1) ∧ p g = true ∧ cond (p i) (f i) (tc_fi p f z d (i + 1)) = f g ∧ _)
    cases hp : p i with
    | true => exact Or.inr ⟨i, Nat.le_refl _, by omega, hp, rfl, fun j h1 h2 => absurd h2 (by omega)⟩
    | false =>
      rcases ih (i + 1) with ⟨h1, h2⟩ | ⟨g, h1, h2, h3, h4, h5⟩
      · refine Or.inl ⟨h1, fun j k1 k2 => ?_⟩
        rcases Nat.eq_or_lt_of_le k1 with e | e
        · rw [← e]; exact hp
        · exact h2 j e (by omega)
      · refine Or.inr ⟨g, by omega, by omega, h3, h4, fun j k1 k2 => ?_⟩
        rcases Nat.eq_or_lt_of_le k1 with e | e
        · rw [← e]; exact hp
        · exact h5 j e k2
theorem tc_beq {a b : Bool} (h : a = true ↔ b = true) : a = b := by
  cases a with
  | false => cases b with
    | false => rfl
    | true => exact absurd (h.mpr rfl) (by decide)
  | true => exact (h.mp rfl).symm
-- a loop that counts
theorem tc_cnt (W : Nat → Int32 → Int32 → Prop) (post : Int32 → Prop) (p : Nat → Bool)
    (hx : ∀ n c, post c → W (n + 1) c (nI 128))
    (hs : ∀ n i c, i < 128 → (p i = false → W n (nI c) (nI (i + 1))) → (p i = true → W n (nI (c + 1)) (nI (i + 1))) → W (n + 1) (nI c) (nI i)) :
    ∀ d i c, i + d = 128 → post (nI (c + tc_cn p d i)) → W (d + 1) (nI c) (nI i) := by
  intro d
  induction d with
  | zero =>
    intro i c hi hp
    have e : i = 128 := by omega
    rw [e]
    exact hx 0 (nI c) hp
  | succ d ih =>
    intro i c hi hp
    refine hs (d + 1) i c (by omega) (fun h => ih (i + 1) c (by omega) ?_) (fun h => ih (i + 1) (c + 1) (by omega) ?_)
    · have e : tc_cn p (d + 1) i = tc_cn p d (i + 1) := by
        show (p i).toNat + tc_cn p d (i + 1) = _
        rw [h]; exact Nat.zero_add _
      rw [← e]; exact hp
    · have e : c + tc_cn p (d + 1) i = c + 1 + tc_cn p d (i + 1) := by
        show c + ((p i).toNat + tc_cn p d (i + 1)) = _
        rw [h, Nat.add_assoc]; rfl
      rw [← e]; exact hp
