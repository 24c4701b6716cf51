section
-- rows of the kit, pasted
theorem pk_us {f : Nat → Int32} {k : Nat} {x : Int32} : upd f k x k = x := if_pos rfl
theorem pk_un {f : Nat → Int32} {k j : Nat} {x : Int32} (h : j ≠ k) : upd f k x j = f j := if_neg h
theorem pk_mul (a b : Nat) : nI a * nI b = nI (a * b) := (Int32.ofNat_mul a b).symm
theorem pk_ix (x : Int32) {n : Nat} (hn : n < 2 ^ 31) : x < 0 ∨ nI n ≤ x ∨ ∃ j : Nat, j < n ∧ x = nI j := by
  by_cases h : x < 0
  · exact Or.inl h
  · obtain ⟨j, hj, rfl⟩ := nI_of h
    by_cases h2 : j < n
    · exact Or.inr (Or.inr ⟨j, h2, rfl⟩)
    · exact Or.inr (Or.inl (nI_le (by omega) hj))
theorem pk_le {x y : Int32} {A B : Prop} (a b : Nat) (f : a ≤ b → A) (g : b < a → B) (hx : x = nI a := by rfl) (hy : y = nI b := by rfl) (ha : a < 2 ^ 31 := by omega) (hb : b < 2 ^ 31 := by omega) : (x ≤ y → A) ∧ (¬ x ≤ y → B) := by
  subst hx hy
  rw [nI_leI ha hb]
  exact ⟨f, fun z => g (by omega)⟩
theorem pk_lt {x y : Int32} {A B : Prop} (a b : Nat) (f : a < b → A) (g : b ≤ a → B) (hx : x = nI a := by rfl) (hy : y = nI b := by rfl) (ha : a < 2 ^ 31 := by omega) (hb : b < 2 ^ 31 := by omega) : (x < y → A) ∧ (¬ x < y → B) := by
  subst hx hy
  rw [nI_ltI ha hb]
  exact ⟨f, fun z => g (by omega)⟩
theorem pk_eq {x y : Int32} {A B : Prop} (a b : Nat) (f : a = b → A) (g : a ≠ b → B) (hx : x = nI a := by rfl) (hy : y = nI b := by rfl) (ha : a < 2 ^ 31 := by omega) (hb : b < 2 ^ 31 := by omega) : (x = y → A) ∧ (¬ x = y → B) := by
  subst hx hy
  rw [nI_eq ha hb]
  exact ⟨f, g⟩
theorem pk_in {x : Int32} (n N : Nat) (h : n < N) (hx : x = nI n := by rfl) (hN : N < 2 ^ 31 := by omega) : vp_in x N := by
  subst hx
  exact vp_in_nI h hN
theorem pk_cl {x : Int32} (n : Nat) (hx : x = nI n := by rfl) (h : n < 2 ^ 31 := by omega) : x.toNatClampNeg = n := by
  subst hx
  exact nI_clamp h
theorem nx_and (a b : Nat) : nI a &&& nI b = nI (a &&& b) := by
  apply Int32.toBitVec_inj.1
  show BitVec.ofNat 32 a &&& BitVec.ofNat 32 b = BitVec.ofNat 32 (a &&& b)
  apply BitVec.eq_of_getLsbD_eq
  intro i hi
  simp [hi]
-- numbers
def tc_b (b : Bool) : Int32 := cond b 1 0
theorem tc_br {b : Bool} {A B : Prop} (f : b = false → A) (g : b = true → B) : (tc_b b = 0 → A) ∧ (¬ tc_b b = 0 → B) := by
  cases b with
  | false => exact br_t rfl (f rfl)
  | true => exact br_f (by decide) (g rfl)
theorem tc_lt {i : Nat} (h : i < 128) : ¬ (128 : Int32) ≤ nI i := nI_ge (b := 128) h (by decide)
theorem tc_ge : (128 : Int32) ≤ nI 128 := by decide +kernel
theorem tc_lt7 {i : Nat} (h : i < 7) : ¬ (7 : Int32) ≤ nI i := nI_ge (b := 7) h (by decide)
theorem tc_ge7 : (7 : Int32) ≤ nI 7 := by decide +kernel
theorem tc_nar (b : Bool) : narrow .boolean (.int (tc_b b)) = .int (tc_b b) := by
  cases b with
  | false => exact lw_bz_n 0
  | true => exact lw_bz_n 1
theorem tc_vnar (b : Bool) : vp_nar .boolean (tc_b b) = tc_b b := by
  have h := tc_nar b
  unfold vp_nar
  rw [h]
theorem tc_ix (t g : Nat) : (128 : Int32) * nI t + nI g = nI (128 * t + g) := by
  show nI 128 * nI t + nI g = _
  rw [pk_mul, nI_add]
theorem tc_ix1 (g : Nat) : (128 : Int32) + nI g = nI (128 + g) := nI_add 128 g
-- pictures
def tc_sf (g : Nat) : Nat → Nat → Nat
  | 0, _ => 0
  | d + 1, m => g / 2 ^ m % 2 + tc_sf g d (m + 1)
def tc_sz (g : Nat) : Nat := tc_sf g 7 0
def tc_cr (g h : Nat) : Bool := !(g &&& h == 0) && (!(g &&& h == g) && !(g &&& h == h))
def tc_gv (g : Nat) : Bool := tc_sz g == 1 || g == 127
def tc_cn (p : Nat → Bool) : Nat → Nat → Nat
  | 0, _ => 0
  | d + 1, i => (p i).toNat + tc_cn p d (i + 1)
def tc_al (p : Nat → Bool) : Nat → Nat → Bool
  | 0, _ => true
  | d + 1, i => p i && tc_al p d (i + 1)
def tc_ex (p : Nat → Bool) : Nat → Nat → Bool
  | 0, _ => false
  | d + 1, i => p i || tc_ex p d (i + 1)
def tc_fi (p : Nat → Bool) (f : Nat → Nat) (z : Nat) : Nat → Nat → Nat
  | 0, _ => z
  | d + 1, i => cond (p i) (f i) (tc_fi p f z d (i + 1))
theorem tc_al_iff (p : Nat → Bool) : ∀ d i, tc_al p d i = true ↔ ∀ j, i ≤ j → j < i + d → p j = true := by
  intro d
  induction d with
  | zero => intro i; exact ⟨fun _ j h1 h2 => absurd h2 (by omega), fun _ => rfl⟩
  | succ d ih =>
    intro i
    show (p i && tc_al p d (i + 1)) = true ↔ _
    rw [Bool.and_eq_true, ih (i + 1)]
    constructor
    · intro h j h1 h2
      rcases Nat.eq_or_lt_of_le h1 with e | e
      · rw [← e]; exact h.1
      · exact h.2 j e (by omega)
    · intro h
      exact ⟨h i (Nat.le_refl _) (by omega), fun j h1 h2 => h j (by omega) (by omega)⟩
theorem tc_ex_iff (p : Nat → Bool) : ∀ d i, tc_ex p d i = true ↔ ∃ j, i ≤ j ∧ j < i + d ∧ p j = true := by
  intro d
  induction d with
  | zero => intro i; exact ⟨fun h => absurd h (by intro z; cases z), fun h => by obtain ⟨j, h1, h2, _⟩ := h; omega⟩
  | succ d ih =>
    intro i
    show (p i || tc_ex p d (i + 1)) = true ↔ _
    rw [Bool.or_eq_true, ih (i + 1)]
    constructor
    · intro h
      rcases h with h | h
      · exact ⟨i, Nat.le_refl _, by omega, h⟩
      · obtain ⟨j, h1, h2, h3⟩ := h
        exact ⟨j, by omega, by omega, h3⟩
    · intro h
      obtain ⟨j, h1, h2, h3⟩ := h
      rcases Nat.eq_or_lt_of_le h1 with e | e
      · left; rw [e]; exact h3
      · right; exact ⟨j, e, by omega, h3⟩
theorem tc_cn_le (p : Nat → Bool) : ∀ d i, tc_cn p d i ≤ d := by
  intro d
  induction d with
  | zero => intro i; exact Nat.le_refl _
  | succ d ih =>
    intro i
    show (p i).toNat + tc_cn p d (i + 1) ≤ d + 1
    have h1 := ih (i + 1)
    have h2 : (p i).toNat ≤ 1 := by cases p i <;> decide
    omega
theorem tc_cn_0 (p : Nat → Bool) : ∀ d i, tc_cn p d i = 0 ↔ tc_al (fun j => !p j) d i = true := by
  intro d
  induction d with
  | zero => intro i; exact ⟨fun _ => rfl, fun _ => rfl⟩
  | succ d ih =>
    intro i
    show (p i).toNat + tc_cn p d (i + 1) = 0 ↔ (!p i && tc_al (fun j => !p j) d (i + 1)) = true
    rw [Bool.and_eq_true, ← ih (i + 1)]
    cases p i with
    | false => simp
    | true => simp
theorem tc_cn_cg {p q : Nat → Bool} : ∀ d i, (∀ j, i ≤ j → j < i + d → p j = q j) → tc_cn p d i = tc_cn q d i := by
  intro d
  induction d with
  | zero => intro i _; rfl
  | succ d ih =>
    intro i h
    show (p i).toNat + tc_cn p d (i + 1) = (q i).toNat + tc_cn q d (i + 1)
    rw [h i (Nat.le_refl _) (by omega), ih (i + 1) (fun j h1 h2 => h j (by omega) (by omega))]
theorem tc_fi_c (p : Nat → Bool) (f : Nat → Nat) (z : Nat) : ∀ d i, (tc_fi p f z d i = z ∧ ∀ j, i ≤ j → j < i + d → p j = false) ∨ (∃ g, i ≤ g ∧ g < i + d ∧ p g = true ∧ tc_fi p f z d i = f g ∧ ∀ j, i ≤ j → j < g → p j = false) := by
  intro d
  induction d with
  | zero => intro i; exact Or.inl ⟨rfl, fun j h1 h2 => absurd h2 (by omega)⟩
  | succ d ih =>
    intro i
    show (cond (p i) (f i) (tc_fi p f z d (i + 1)) = z ∧ _) ∨ (∃ g, i ≤ g ∧ g < i + (d + 1) ∧ p g = true ∧ cond (p i) (f i) (tc_fi p f z d (i + 1)) = f g ∧ _)
    cases hp : p i with
    | true => exact Or.inr ⟨i, Nat.le_refl _, by omega, hp, rfl, fun j h1 h2 => absurd h2 (by omega)⟩
    | false =>
      rcases ih (i + 1) with ⟨h1, h2⟩ | ⟨g, h1, h2, h3, h4, h5⟩
      · refine Or.inl ⟨h1, fun j k1 k2 => ?_⟩
        rcases Nat.eq_or_lt_of_le k1 with e | e
        · rw [← e]; exact hp
        · exact h2 j e (by omega)
      · refine Or.inr ⟨g, by omega, by omega, h3, h4, fun j k1 k2 => ?_⟩
        rcases Nat.eq_or_lt_of_le k1 with e | e
        · rw [← e]; exact hp
        · exact h5 j e k2
theorem tc_beq {a b : Bool} (h : a = true ↔ b = true) : a = b := by
  cases a with
  | false => cases b with
    | false => rfl
    | true => exact absurd (h.mpr rfl) (by decide)
  | true => exact (h.mp rfl).symm
-- a loop that counts
theorem tc_cnt (W : Nat → Int32 → Int32 → Prop) (post : Int32 → Prop) (p : Nat → Bool)
    (hx : ∀ n c, post c → W (n + 1) c (nI 128))
    (hs : ∀ n i c, i < 128 → (p i = false → W n (nI c) (nI (i + 1))) → (p i = true → W n (nI (c + 1)) (nI (i + 1))) → W (n + 1) (nI c) (nI i)) :
    ∀ d i c, i + d = 128 → post (nI (c + tc_cn p d i)) → W (d + 1) (nI c) (nI i) := by
  intro d
  induction d with
  | zero =>
    intro i c hi hp
    have e : i = 128 := by omega
    rw [e]
    exact hx 0 (nI c) hp
  | succ d ih =>
    intro i c hi hp
    refine hs (d + 1) i c (by omega) (fun h => ih (i + 1) c (by omega) ?_) (fun h => ih (i + 1) (c + 1) (by omega) ?_)
    · have e : tc_cn p (d + 1) i = tc_cn p d (i + 1) := by
        show (p i).toNat + tc_cn p d (i + 1) = _
        rw [h]; exact Nat.zero_add _
      rw [← e]; exact hp
    · have e : c + tc_cn p (d + 1) i = c + 1 + tc_cn p d (i + 1) := by
        show c + ((p i).toNat + tc_cn p d (i + 1)) = _
        rw [h, Nat.add_assoc]; rfl
      rw [← e]; exact hp
end
section
-- closed tables
set_option maxRecDepth 100000 in
theorem tc_t_bit : ∀ g, g < 128 → ∀ m, m < 7 → ((nI g >>> (nI m &&& 31)) &&& 1) = nI (g / 2 ^ m % 2) := by decide +kernel
set_option maxRecDepth 100000 in
theorem tc_t_not : ∀ g, g < 128 → ∀ h, h < 128 → (decide (nI g &&& (nI h ^^^ (-1)) = 0)) = (g &&& h == g) := by decide +kernel
set_option maxRecDepth 100000 in
theorem tc_t_sub : ∀ g, g < 128 → ∀ h, h < 128 → g &&& h = g → tc_sz g ≤ tc_sz h := by decide +kernel
set_option maxRecDepth 100000 in
theorem tc_t_gv : ∀ g, g < 128 → tc_gv g = true → ∀ h, h < 128 → tc_gv h = true → tc_cr g h = false := by decide +kernel
set_option maxRecDepth 100000 in
theorem tc_t_sz : ∀ g, g < 128 → tc_sz g ≤ 7 := by decide +kernel
set_option maxRecDepth 100000 in
theorem tc_t_sz7 : ∀ g, g < 128 → ¬ tc_sz g < tc_sz 127 → g = 127 := by decide +kernel
set_option maxRecDepth 100000 in
theorem tc_t_all : ∀ g, g < 128 → g &&& 127 = g := by decide +kernel
theorem tc_t_gv0 : tc_gv 0 = false := by decide +kernel
-- three members
def tc_th (a b c : Nat) : Nat := 2 ^ a ||| 2 ^ b ||| 2 ^ c
def tc_pr (a b : Nat) : Nat := 2 ^ a ||| 2 ^ b
theorem tc_all {p : Nat → Bool} (h : tc_al p 128 0 = true) (x : Nat) (hx : x < 128) : p x = true := (tc_al_iff p 128 0).mp h x (Nat.zero_le _) (by omega)
theorem tc_imp {p q : Bool} (h : (!p || q) = true) (hp : p = true) : q = true := by
  rw [hp] at h
  exact h
theorem tc_tri {a b c : Nat} {q : Bool} (h : (a == b || (a == c || (b == c || q))) = true) (ab : ¬ a = b) (ac : ¬ a = c) (bc : ¬ b = c) : q = true := by
  rw [beq_eq_false_iff_ne.mpr ab, beq_eq_false_iff_ne.mpr ac, beq_eq_false_iff_ne.mpr bc] at h
  exact h
def tc_w2 (s x y : Nat) : Bool := !(y &&& s == y) || (!(tc_sz y == 2) || (x == y || tc_cr x y))
def tc_w1 (s x : Nat) : Bool := !(x &&& s == x) || (!(tc_sz x == 2) || tc_al (tc_w2 s x) 128 0)
def tc_w0 (s : Nat) : Bool := !(tc_sz s == 3) || tc_al (tc_w1 s) 128 0
set_option maxRecDepth 100000 in
theorem tc_t_w : ∀ s, s < 128 → tc_w0 s = true := by decide +kernel
theorem tc_t_two (s : Nat) (hs : s < 128) (z : tc_sz s = 3) (x : Nat) (hx : x < 128) (xs : x &&& s = x) (x2 : tc_sz x = 2) (y : Nat) (hy : y < 128) (ys : y &&& s = y) (y2 : tc_sz y = 2) (ne : ¬ x = y) : tc_cr x y = true := by
  have h0 : tc_w1 s x = true := tc_all (tc_imp (p := tc_sz s == 3) (tc_t_w s hs) (beq_iff_eq.mpr z)) x hx
  have h1 : tc_w2 s x y = true := tc_all (tc_imp (p := tc_sz x == 2) (tc_imp (p := x &&& s == x) h0 (beq_iff_eq.mpr xs)) (beq_iff_eq.mpr x2)) y hy
  have h2 : (x == y || tc_cr x y) = true := tc_imp (p := tc_sz y == 2) (tc_imp (p := y &&& s == y) h1 (beq_iff_eq.mpr ys)) (beq_iff_eq.mpr y2)
  rw [beq_eq_false_iff_ne.mpr ne] at h2
  exact h2
abbrev tc_P1 (a b c : Nat) : Prop := tc_th a b c < 128 ∧ tc_sz (tc_th a b c) = 3 ∧ (nI (tc_th a b c) = (((1 : Int32) <<< (nI a &&& 31)) ||| ((1 : Int32) <<< (nI b &&& 31))) ||| ((1 : Int32) <<< (nI c &&& 31)))
def tc_p1 (a b c : Nat) : Bool := decide (tc_P1 a b c)
set_option maxRecDepth 100000 in
theorem tc_t_p1 : ∀ a, a < 7 → ∀ b, b < 7 → ∀ c, c < 7 → (a == b || (a == c || (b == c || tc_p1 a b c))) = true := by decide +kernel
theorem tc_t_th (a : Nat) (ha : a < 7) (b : Nat) (hb : b < 7) (ab : ¬ a = b) (c : Nat) (hc : c < 7) (ac : ¬ a = c) (bc : ¬ b = c) : tc_P1 a b c := of_decide_eq_true (tc_tri (q := tc_p1 a b c) (tc_t_p1 a ha b hb c hc) ab ac bc)
abbrev tc_P2 (a b c : Nat) : Prop := ¬ tc_pr b c = tc_pr a c ∧ ¬ tc_pr b c = tc_pr a b ∧ ¬ tc_pr a c = tc_pr a b ∧ ¬ tc_pr b c = 0 ∧ ¬ tc_pr a c = 0 ∧ ¬ tc_pr a b = 0
def tc_p2 (a b c : Nat) : Bool := decide (tc_P2 a b c)
set_option maxRecDepth 100000 in
theorem tc_t_p2 : ∀ a, a < 7 → ∀ b, b < 7 → ∀ c, c < 7 → (a == b || (a == c || (b == c || tc_p2 a b c))) = true := by decide +kernel
theorem tc_t_ne (a : Nat) (ha : a < 7) (b : Nat) (hb : b < 7) (ab : ¬ a = b) (c : Nat) (hc : c < 7) (ac : ¬ a = c) (bc : ¬ b = c) : tc_P2 a b c := of_decide_eq_true (tc_tri (q := tc_p2 a b c) (tc_t_p2 a ha b hb c hc) ab ac bc)
abbrev tc_P3 (a b c : Nat) : Prop :=
    nI (tc_th a b c) &&& (nI (tc_pr b c) ^^^ (-1)) = (1 : Int32) <<< (nI a &&& 31)
    ∧ ¬ nI (tc_th a b c) &&& (nI (tc_pr a c) ^^^ (-1)) = (1 : Int32) <<< (nI a &&& 31)
    ∧ nI (tc_th a b c) &&& (nI (tc_pr a c) ^^^ (-1)) = (1 : Int32) <<< (nI b &&& 31)
    ∧ ¬ nI (tc_th a b c) &&& (nI (tc_pr a b) ^^^ (-1)) = (1 : Int32) <<< (nI a &&& 31)
    ∧ ¬ nI (tc_th a b c) &&& (nI (tc_pr a b) ^^^ (-1)) = (1 : Int32) <<< (nI b &&& 31)
def tc_p3 (a b c : Nat) : Bool := decide (tc_P3 a b c)
set_option maxRecDepth 100000 in
theorem tc_t_p3 : ∀ a, a < 7 → ∀ b, b < 7 → ∀ c, c < 7 → (a == b || (a == c || (b == c || tc_p3 a b c))) = true := by decide +kernel
theorem tc_t_ap (a : Nat) (ha : a < 7) (b : Nat) (hb : b < 7) (ab : ¬ a = b) (c : Nat) (hc : c < 7) (ac : ¬ a = c) (bc : ¬ b = c) : tc_P3 a b c := of_decide_eq_true (tc_tri (q := tc_p3 a b c) (tc_t_p3 a ha b hb c hc) ab ac bc)
def tc_p4 (a b c : Nat) : Bool := tc_al (fun g => (tc_sz (g &&& tc_th a b c) == 2) == (g &&& tc_th a b c == tc_pr b c || (g &&& tc_th a b c == tc_pr a c || g &&& tc_th a b c == tc_pr a b))) 128 0
set_option maxRecDepth 100000 in
theorem tc_t_p4 : ∀ a, a < 7 → ∀ b, b < 7 → ∀ c, c < 7 → (a == b || (a == c || (b == c || tc_p4 a b c))) = true := by decide +kernel
theorem tc_t_A (a : Nat) (ha : a < 7) (b : Nat) (hb : b < 7) (ab : ¬ a = b) (c : Nat) (hc : c < 7) (ac : ¬ a = c) (bc : ¬ b = c) : ∀ g, g < 128 → (tc_sz (g &&& tc_th a b c) == 2) = (g &&& tc_th a b c == tc_pr b c || (g &&& tc_th a b c == tc_pr a c || g &&& tc_th a b c == tc_pr a b)) := fun g hg => beq_iff_eq.mp (tc_all (tc_tri (q := tc_p4 a b c) (tc_t_p4 a ha b hb c hc) ab ac bc) g hg)
def tc_cq (a b c g : Nat) : Bool := g / 2 ^ a % 2 == 1 && (g / 2 ^ b % 2 == 1 && g / 2 ^ c % 2 == 0)
def tc_p5 (a b c : Nat) : Bool := tc_al (fun g => tc_cq b c a g == (g &&& tc_th a b c == tc_pr b c) && (tc_cq a c b g == (g &&& tc_th a b c == tc_pr a c) && tc_cq a b c g == (g &&& tc_th a b c == tc_pr a b))) 128 0
set_option maxRecDepth 100000 in
theorem tc_t_p5 : ∀ a, a < 7 → ∀ b, b < 7 → ∀ c, c < 7 → (a == b || (a == c || (b == c || tc_p5 a b c))) = true := by decide +kernel
theorem tc_t_B (a : Nat) (ha : a < 7) (b : Nat) (hb : b < 7) (ab : ¬ a = b) (c : Nat) (hc : c < 7) (ac : ¬ a = c) (bc : ¬ b = c) : ∀ g, g < 128 → tc_cq b c a g = (g &&& tc_th a b c == tc_pr b c) ∧ tc_cq a c b g = (g &&& tc_th a b c == tc_pr a c) ∧ tc_cq a b c g = (g &&& tc_th a b c == tc_pr a b) := fun g hg => by
  have h : (tc_cq b c a g == (g &&& tc_th a b c == tc_pr b c) && (tc_cq a c b g == (g &&& tc_th a b c == tc_pr a c) && tc_cq a b c g == (g &&& tc_th a b c == tc_pr a b))) = true := tc_all (tc_tri (q := tc_p5 a b c) (tc_t_p5 a ha b hb c hc) ab ac bc) g hg
  rw [Bool.and_eq_true, Bool.and_eq_true, beq_iff_eq, beq_iff_eq, beq_iff_eq] at h
  exact h
-- the three members of a set of three, as the reference gathers them
def tc_ab (s : Nat) : Nat → Nat → Int32 → Int32 → Int32 → Int32 × Int32 × Int32
  | 0, _, a, b, c => (a, b, c)
  | d + 1, m, a, b, c => cond (s / 2 ^ m % 2 == 1) (tc_ab s d (m + 1) b c (nI m)) (tc_ab s d (m + 1) a b c)
def tc_a3 (s : Nat) : Int32 × Int32 × Int32 := tc_ab s 7 0 (-1) (-1) (-1)
def tc_m1 (s : Nat) : Nat := (tc_a3 s).1.toNatClampNeg
def tc_m2 (s : Nat) : Nat := (tc_a3 s).2.1.toNatClampNeg
def tc_m3 (s : Nat) : Nat := (tc_a3 s).2.2.toNatClampNeg
set_option maxRecDepth 100000 in
theorem tc_t_a3 : ∀ s, s < 128 → tc_sz s = 3 → (tc_a3 s).1 = nI (tc_m1 s) ∧ (tc_a3 s).2.1 = nI (tc_m2 s) ∧ (tc_a3 s).2.2 = nI (tc_m3 s) := by decide +kernel
set_option maxRecDepth 100000 in
theorem tc_t_m : ∀ s, s < 128 → tc_sz s = 3 → tc_m1 s < 7 ∧ tc_m2 s < 7 ∧ tc_m3 s < 7 ∧ ¬ tc_m1 s = tc_m2 s ∧ ¬ tc_m1 s = tc_m3 s ∧ ¬ tc_m2 s = tc_m3 s ∧ tc_th (tc_m1 s) (tc_m2 s) (tc_m3 s) = s := by decide +kernel
end
section
-- trees
def tc_lam (T : Nat → Bool) : Prop := ∀ g, g < 128 → T g = true → ∀ h, h < 128 → T h = true → tc_cr g h = false
theorem tc_cr_iff (g h : Nat) : tc_cr g h = true ↔ ¬ g &&& h = 0 ∧ ¬ g &&& h = g ∧ ¬ g &&& h = h := by
  unfold tc_cr
  rw [Bool.and_eq_true, Bool.and_eq_true, Bool.not_eq_true', Bool.not_eq_true', Bool.not_eq_true', beq_eq_false_iff_ne, beq_eq_false_iff_ne, beq_eq_false_iff_ne]
theorem tc_cr_s (g h : Nat) : tc_cr g h = tc_cr h g := by
  apply tc_beq
  rw [tc_cr_iff, tc_cr_iff, Nat.and_comm h g]
  exact ⟨fun z => ⟨z.1, z.2.2, z.2.1⟩, fun z => ⟨z.1, z.2.2, z.2.1⟩⟩
theorem tc_cr_r (g : Nat) : tc_cr g g = false := by
  cases h : tc_cr g g with
  | false => rfl
  | true => exact absurd (Nat.and_self g) ((tc_cr_iff g g).mp h).2.1
theorem tc_and4 (g h s : Nat) : (g &&& s) &&& (h &&& s) = (g &&& h) &&& s := by
  rw [Nat.and_assoc g s, Nat.and_comm h s, ← Nat.and_assoc s s h, Nat.and_self, Nat.and_comm s h, ← Nat.and_assoc]
theorem tc_cr_up (g h s : Nat) (z : tc_cr (g &&& s) (h &&& s) = true) : tc_cr g h = true := by
  rw [tc_cr_iff, tc_and4] at z
  rw [tc_cr_iff]
  refine ⟨fun e => z.1 ?_, fun e => z.2.1 ?_, fun e => z.2.2 ?_⟩
  · rw [e]; exact Nat.zero_and _
  · rw [e]
  · rw [e]
theorem tc_andlt {g : Nat} (h : g < 128) (s : Nat) : g &&& s < 128 := Nat.lt_of_le_of_lt Nat.and_le_left h
theorem tc_andlt' {g : Nat} (h : g < 128) (s : Nat) : s &&& g < 128 := Nat.lt_of_le_of_lt Nat.and_le_right h
theorem tc_ands (g s : Nat) : (g &&& s) &&& s = g &&& s := by rw [Nat.and_assoc, Nat.and_self]
theorem tc_uni {T : Nat → Bool} (L : tc_lam T) {s g h : Nat} (hs : s < 128) (z : tc_sz s = 3) (hg : g < 128) (hh : h < 128) (tg : T g = true) (th : T h = true) (zg : tc_sz (g &&& s) = 2) (zh : tc_sz (h &&& s) = 2) : g &&& s = h &&& s := by
  by_cases e : g &&& s = h &&& s
  · exact e
  · have k := tc_cr_up g h s (tc_t_two s hs z (g &&& s) (tc_andlt hg s) (tc_ands g s) zg (h &&& s) (tc_andlt hh s) (tc_ands h s) zh e)
    rw [L g hg tg h hh th] at k
    cases k
def tc_ft (T : Nat → Bool) (g : Nat) : Bool := tc_al (fun j => !(tc_cr g j && T j)) 127 1
def tc_cp (T : Nat → Bool) (s : Nat) : Nat := tc_fi (fun g => T g && tc_sz (g &&& s) == 2) (fun g => g &&& s) 0 127 1
def tc_cl (T : Nat → Bool) (a b c : Nat) : Bool := tc_ex (fun g => T g && tc_cq a b c g) 127 1
def tc_sy (T : Nat → Bool) (a b c : Nat) : Nat := cond (tc_cl T b c a) 0 (cond (tc_cl T a c b) 1 (cond (tc_cl T a b c) 2 3))
theorem tc_cp_lt (T : Nat → Bool) (s : Nat) : tc_cp T s < 128 := by
  rcases tc_fi_c (fun g => T g && tc_sz (g &&& s) == 2) (fun g => g &&& s) 0 127 1 with ⟨h, _⟩ | ⟨g, h1, h2, h3, h4, _⟩
  · show tc_fi _ _ _ _ _ < 128
    rw [h]; decide
  · show tc_fi _ _ _ _ _ < 128
    rw [h4]; exact tc_andlt (by omega) s
theorem tc_exf {p : Nat → Bool} (h : ∀ j, 1 ≤ j → j < 128 → p j = false) : tc_ex p 127 1 = false := by
  cases e : tc_ex p 127 1 with
  | false => rfl
  | true =>
    obtain ⟨j, h1, h2, h3⟩ := (tc_ex_iff p 127 1).mp e
    rw [h j h1 (by omega)] at h3
    cases h3
theorem tc_ext {p : Nat → Bool} (j : Nat) (h1 : 1 ≤ j) (h2 : j < 128) (h : p j = true) : tc_ex p 127 1 = true := (tc_ex_iff p 127 1).mpr ⟨j, h1, by omega, h⟩
theorem tc_say {T : Nat → Bool} (L : tc_lam T) {a b c : Nat} (ha : a < 7) (hb : b < 7) (hc : c < 7) (ab : ¬ a = b) (ac : ¬ a = c) (bc : ¬ b = c) :
    (tc_cp T (tc_th a b c) = tc_pr b c ∧ tc_sy T a b c = 0) ∨ (tc_cp T (tc_th a b c) = tc_pr a c ∧ tc_sy T a b c = 1) ∨ (tc_cp T (tc_th a b c) = tc_pr a b ∧ tc_sy T a b c = 2) ∨ (tc_cp T (tc_th a b c) = 0 ∧ tc_sy T a b c = 3) := by
  have hA := tc_t_A a ha b hb ab c hc ac bc
  have hB := tc_t_B a ha b hb ab c hc ac bc
  obtain ⟨hs, z3, _⟩ := tc_t_th a ha b hb ab c hc ac bc
  obtain ⟨n1, n2, n3, _⟩ := tc_t_ne a ha b hb ab c hc ac bc
  generalize tc_th a b c = s at hA hB hs z3 ⊢
  have hno : ∀ q : Nat → Bool, ∀ w : Nat, (∀ g, g < 128 → q g = (g &&& s == w)) → (∀ g, g < 128 → T g = true → ¬ g &&& s = w) → tc_ex (fun g => T g && q g) 127 1 = false := by
    intro q w hq hw
    apply tc_exf
    intro j h1 h2
    cases tj : T j with
    | false => simp [tj]
    | true =>
      rw [hq j h2, Bool.true_and]
      exact beq_eq_false_iff_ne.mpr (hw j h2 tj)
  have hye : ∀ q : Nat → Bool, ∀ w : Nat, (∀ g, g < 128 → q g = (g &&& s == w)) → ∀ g, 1 ≤ g → g < 128 → T g = true → g &&& s = w → tc_ex (fun g => T g && q g) 127 1 = true := by
    intro q w hq g h1 h2 tg hw
    apply tc_ext g h1 h2
    show (T g && q g) = true
    rw [tg, hq g h2, hw, Bool.true_and]
    exact beq_self_eq_true w
  have q1 : ∀ g, g < 128 → tc_cq b c a g = (g &&& s == tc_pr b c) := fun g h => (hB g h).1
  have q2 : ∀ g, g < 128 → tc_cq a c b g = (g &&& s == tc_pr a c) := fun g h => (hB g h).2.1
  have q3 : ∀ g, g < 128 → tc_cq a b c g = (g &&& s == tc_pr a b) := fun g h => (hB g h).2.2
  rcases tc_fi_c (fun g => T g && tc_sz (g &&& s) == 2) (fun g => g &&& s) 0 127 1 with ⟨h, hn⟩ | ⟨g, h1, h2, h3, h4, _⟩
  · have hz : ∀ g, g < 128 → T g = true → ¬ (tc_sz (g &&& s) == 2) = true := by
      intro g hg tg e
      rcases Nat.eq_zero_or_pos g with g0 | g0
      · rw [g0, Nat.zero_and] at e
        exact absurd e (by decide)
      · have k := hn g g0 (by omega)
        simp only [tg, e, Bool.and_self] at k
        cases k
    have e1 : ∀ g, g < 128 → T g = true → ¬ g &&& s = tc_pr b c := fun g hg tg e => hz g hg tg (by rw [hA g hg, e]; simp)
    have e2 : ∀ g, g < 128 → T g = true → ¬ g &&& s = tc_pr a c := fun g hg tg e => hz g hg tg (by rw [hA g hg, e]; simp)
    have e3 : ∀ g, g < 128 → T g = true → ¬ g &&& s = tc_pr a b := fun g hg tg e => hz g hg tg (by rw [hA g hg, e]; simp)
    refine Or.inr (Or.inr (Or.inr ⟨h, ?_⟩))
    unfold tc_sy tc_cl
    rw [hno _ _ q1 e1, hno _ _ q2 e2, hno _ _ q3 e3]
    rfl
  · have h2' : g < 128 := by omega
    have tg : T g = true := (Bool.and_eq_true _ _ ▸ h3 : T g = true ∧ _).1
    have zg : (tc_sz (g &&& s) == 2) = true := (Bool.and_eq_true _ _ ▸ h3 : _ ∧ (tc_sz (g &&& s) == 2) = true).2
    have one : ∀ j, j < 128 → T j = true → (tc_sz (j &&& s) == 2) = true → j &&& s = g &&& s := fun j hj tj zj =>
      tc_uni L hs z3 hj h2' tj tg (beq_iff_eq.mp zj) (beq_iff_eq.mp zg)
    have ne : ∀ w, ¬ g &&& s = w → (w = tc_pr b c ∨ w = tc_pr a c ∨ w = tc_pr a b) → ∀ j, j < 128 → T j = true → ¬ j &&& s = w := by
      intro w hw ho j hj tj e
      apply hw
      rw [← e]
      refine (one j hj tj ?_).symm
      rw [hA j hj, e]
      rcases ho with o | o | o <;> rw [o] <;> simp
    have zz := zg
    rw [hA g h2', Bool.or_eq_true, Bool.or_eq_true, beq_iff_eq, beq_iff_eq, beq_iff_eq] at zz
    have hcp : tc_cp T s = g &&& s := h4
    rw [hcp]
    unfold tc_sy tc_cl
    rcases zz with e | e | e
    · refine Or.inl ⟨e, ?_⟩
      rw [hye _ _ q1 g h1 h2' tg e]; rfl
    · refine Or.inr (Or.inl ⟨e, ?_⟩)
      rw [hno _ _ q1 (ne _ (by rw [e]; exact fun z => n1 z.symm) (Or.inl rfl)), hye _ _ q2 g h1 h2' tg e]; rfl
    · refine Or.inr (Or.inr (Or.inl ⟨e, ?_⟩))
      rw [hno _ _ q1 (ne _ (by rw [e]; exact fun z => n2 z.symm) (Or.inl rfl)), hno _ _ q2 (ne _ (by rw [e]; exact fun z => n3 z.symm) (Or.inr (Or.inl rfl))), hye _ _ q3 g h1 h2' tg e]; rfl
def tc_aq (T : Nat → Bool) (s : Nat) : Nat := tc_sy T (tc_m1 s) (tc_m2 s) (tc_m3 s)
theorem tc_sy_le (T : Nat → Bool) (a b c : Nat) : tc_sy T a b c ≤ 3 := by
  unfold tc_sy
  cases tc_cl T b c a <;> cases tc_cl T a c b <;> cases tc_cl T a b c <;> decide
theorem tc_aq_cp {T : Nat → Bool} (L : tc_lam T) {s : Nat} (hs : s < 128) (z : tc_sz s = 3) : tc_aq T s = 3 ↔ tc_cp T s = 0 := by
  obtain ⟨h1, h2, h3, n12, n13, n23, e⟩ := tc_t_m s hs z
  obtain ⟨_, _, _, p1, p2, p3⟩ := tc_t_ne _ h1 _ h2 n12 _ h3 n13 n23
  have k := tc_say L h1 h2 h3 n12 n13 n23
  rw [e] at k
  unfold tc_aq
  rcases k with ⟨c, y⟩ | ⟨c, y⟩ | ⟨c, y⟩ | ⟨c, y⟩ <;> rw [c, y]
  · exact ⟨fun q => absurd q (by decide), fun q => absurd q p1⟩
  · exact ⟨fun q => absurd q (by decide), fun q => absurd q p2⟩
  · exact ⟨fun q => absurd q (by decide), fun q => absurd q p3⟩
  · exact ⟨fun _ => rfl, fun _ => rfl⟩
theorem tc_aq_eq {T U : Nat → Bool} (L : tc_lam T) (M : tc_lam U) {s : Nat} (hs : s < 128) (z : tc_sz s = 3) : tc_aq T s = tc_aq U s ↔ tc_cp T s = tc_cp U s := by
  obtain ⟨h1, h2, h3, n12, n13, n23, e⟩ := tc_t_m s hs z
  obtain ⟨d1, d2, d3, p1, p2, p3⟩ := tc_t_ne _ h1 _ h2 n12 _ h3 n13 n23
  have k := tc_say L h1 h2 h3 n12 n13 n23
  have j := tc_say M h1 h2 h3 n12 n13 n23
  rw [e] at k j
  unfold tc_aq
  rcases k with ⟨c, y⟩ | ⟨c, y⟩ | ⟨c, y⟩ | ⟨c, y⟩ <;> rcases j with ⟨c', y'⟩ | ⟨c', y'⟩ | ⟨c', y'⟩ | ⟨c', y'⟩ <;> rw [c, y, c', y'] <;>
    first
    | exact ⟨fun _ => rfl, fun _ => rfl⟩
    | exact ⟨fun q => absurd q (by decide), fun q => absurd q d1⟩
    | exact ⟨fun q => absurd q (by decide), fun q => absurd q d2⟩
    | exact ⟨fun q => absurd q (by decide), fun q => absurd q d3⟩
    | exact ⟨fun q => absurd q (by decide), fun q => absurd q p1⟩
    | exact ⟨fun q => absurd q (by decide), fun q => absurd q p2⟩
    | exact ⟨fun q => absurd q (by decide), fun q => absurd q p3⟩
    | exact ⟨fun q => absurd q (by decide), fun q => absurd q.symm d1⟩
    | exact ⟨fun q => absurd q (by decide), fun q => absurd q.symm d2⟩
    | exact ⟨fun q => absurd q (by decide), fun q => absurd q.symm d3⟩
    | exact ⟨fun q => absurd q (by decide), fun q => absurd q.symm p1⟩
    | exact ⟨fun q => absurd q (by decide), fun q => absurd q.symm p2⟩
    | exact ⟨fun q => absurd q (by decide), fun q => absurd q.symm p3⟩
end
section
-- join
def tc_jq (T : Nat → Bool) (s g : Nat) : Bool := T g && g &&& s == s
def tc_jf (T : Nat → Bool) (s : Nat) : Nat → Nat → Nat → Nat
  | 0, _, b => b
  | d + 1, i, b => tc_jf T s d (i + 1) (cond (tc_jq T s i && decide (tc_sz i < tc_sz b)) i b)
theorem tc_jf_st (T : Nat → Bool) (s : Nat) : ∀ d i b, (∀ j, i ≤ j → j < i + d → tc_jq T s j = true → ¬ tc_sz j < tc_sz b) → tc_jf T s d i b = b := by
  intro d
  induction d with
  | zero => intro i b _; rfl
  | succ d ih =>
    intro i b h
    have e : cond (tc_jq T s i && decide (tc_sz i < tc_sz b)) i b = b := by
      cases q : tc_jq T s i with
      | false => rfl
      | true => rw [decide_eq_false (h i (Nat.le_refl _) (by omega) q)]; rfl
    show tc_jf T s d (i + 1) (cond (tc_jq T s i && decide (tc_sz i < tc_sz b)) i b) = b
    rw [e]
    exact ih (i + 1) b (fun j h1 h2 => h j (by omega) (by omega))
theorem tc_jq_iff (T : Nat → Bool) (s g : Nat) : tc_jq T s g = true ↔ T g = true ∧ g &&& s = s := by
  unfold tc_jq
  rw [Bool.and_eq_true, beq_iff_eq]
theorem tc_join {T : Nat → Bool} (L : tc_lam T) {s : Nat} (hs : 0 < s) : ∀ d i, i + d = 128 → tc_jf T s d i 127 = tc_fi (tc_jq T s) (fun g => g) 127 d i := by
  intro d
  induction d with
  | zero => intro i _; rfl
  | succ d ih =>
    intro i hi
    show tc_jf T s d (i + 1) (cond (tc_jq T s i && decide (tc_sz i < tc_sz 127)) i 127) = cond (tc_jq T s i) i (tc_fi (tc_jq T s) (fun g => g) 127 d (i + 1))
    cases q : tc_jq T s i with
    | false => exact ih (i + 1) (by omega)
    | true =>
      show tc_jf T s d (i + 1) (cond (decide (tc_sz i < tc_sz 127)) i 127) = i
      by_cases z : tc_sz i < tc_sz 127
      · rw [decide_eq_true z]
        refine tc_jf_st T s d (i + 1) i (fun j h1 h2 qj => ?_)
        obtain ⟨ti, si⟩ := (tc_jq_iff T s i).mp q
        obtain ⟨tj, sj⟩ := (tc_jq_iff T s j).mp qj
        have l := L i (by omega) ti j (by omega) tj
        have c : ¬ tc_cr i j = true := by rw [l]; decide
        rw [tc_cr_iff] at c
        have n0 : ¬ i &&& j = 0 := by
          intro e
          have k : (i &&& j) &&& s = s := by rw [Nat.and_assoc, sj, si]
          rw [e, Nat.zero_and] at k
          omega
        have nj : ¬ i &&& j = j := by
          intro e
          have k : i &&& j ≤ i := Nat.and_le_left
          omega
        have ei : i &&& j = i := by
          by_cases e : i &&& j = i
          · exact e
          · exact absurd ⟨n0, e, nj⟩ c
        have k := tc_t_sub i (by omega) j (by omega) ei
        omega
      · have e := tc_t_sz7 i (by omega) z
        rw [decide_eq_false z]
        have d0 : d = 0 := by omega
        rw [d0, e]
        rfl
-- the largest agreed set
def tc_bs (A : Nat → Bool) : Nat → Nat → Nat → Nat
  | 0, _, b => b
  | d + 1, i, b => tc_bs A d (i + 1) (cond (decide (tc_sz b < tc_sz i) && A i) i b)
theorem tc_bs_lt (A : Nat → Bool) : ∀ d i b, i + d ≤ 128 → b < 128 → tc_bs A d i b < 128 := by
  intro d
  induction d with
  | zero => intro i b _ h; exact h
  | succ d ih =>
    intro i b hi h
    refine ih (i + 1) _ (by omega) ?_
    cases (decide (tc_sz b < tc_sz i) && A i) with
    | false => exact h
    | true => show i < 128; omega
theorem tc_bs_sp (A : Nat → Bool) : ∀ d i b, A b = true → b < i → (∀ j, j < i → A j = true → tc_sz j ≤ tc_sz b) → (∀ j, j < b → A j = true → tc_sz j < tc_sz b) →
    A (tc_bs A d i b) = true ∧ tc_bs A d i b < i + d ∧ (∀ j, j < i + d → A j = true → tc_sz j ≤ tc_sz (tc_bs A d i b)) ∧ (∀ j, j < tc_bs A d i b → A j = true → tc_sz j < tc_sz (tc_bs A d i b)) := by
  intro d
  induction d with
  | zero => intro i b h1 h2 h3 h4; exact ⟨h1, h2, h3, h4⟩
  | succ d ih =>
    intro i b h1 h2 h3 h4
    have e : i + (d + 1) = i + 1 + d := by omega
    rw [e]
    show A (tc_bs A d (i + 1) (cond (decide (tc_sz b < tc_sz i) && A i) i b)) = true ∧ tc_bs A d (i + 1) (cond (decide (tc_sz b < tc_sz i) && A i) i b) < i + 1 + d ∧ (∀ j, j < i + 1 + d → A j = true → tc_sz j ≤ tc_sz (tc_bs A d (i + 1) (cond (decide (tc_sz b < tc_sz i) && A i) i b))) ∧ (∀ j, j < tc_bs A d (i + 1) (cond (decide (tc_sz b < tc_sz i) && A i) i b) → A j = true → tc_sz j < tc_sz (tc_bs A d (i + 1) (cond (decide (tc_sz b < tc_sz i) && A i) i b)))
    by_cases z : tc_sz b < tc_sz i
    · cases ai : A i with
      | true =>
        rw [decide_eq_true z]
        show A (tc_bs A d (i + 1) i) = true ∧ _
        refine ih (i + 1) i ai (by omega) (fun j hj aj => ?_) (fun j hj aj => ?_)
        · rcases Nat.eq_or_lt_of_le (Nat.lt_succ_iff.mp hj) with e | e
          · rw [e]; exact Nat.le_refl _
          · have := h3 j e aj; omega
        · have := h3 j hj aj; omega
      | false =>
        rw [decide_eq_true z]
        show A (tc_bs A d (i + 1) b) = true ∧ _
        refine ih (i + 1) b h1 (by omega) (fun j hj aj => ?_) h4
        rcases Nat.eq_or_lt_of_le (Nat.lt_succ_iff.mp hj) with e | e
        · rw [e, ai] at aj; cases aj
        · exact h3 j e aj
    · rw [decide_eq_false z]
      show A (tc_bs A d (i + 1) b) = true ∧ _
      refine ih (i + 1) b h1 (by omega) (fun j hj aj => ?_) h4
      rcases Nat.eq_or_lt_of_le (Nat.lt_succ_iff.mp hj) with e | e
      · rw [e]; omega
      · exact h3 j e aj
theorem tc_bs_fi {A : Nat → Bool} (a0 : A 0 = true) : tc_fi (fun j => tc_sz j == tc_sz (tc_bs A 127 1 0) && A j) (fun j => j) 0 128 0 = tc_bs A 127 1 0 := by
  obtain ⟨k1, k2, k3, k4⟩ := tc_bs_sp A 127 1 0 a0 (by omega) (fun j hj _ => by have e : j = 0 := by omega
                                                                                rw [e]; exact Nat.le_refl _) (fun j hj _ => absurd hj (by omega))
  generalize tc_bs A 127 1 0 = B at k1 k2 k3 k4 ⊢
  have pB : (tc_sz B == tc_sz B && A B) = true := by rw [beq_self_eq_true, k1]; rfl
  rcases tc_fi_c (fun j => tc_sz j == tc_sz B && A j) (fun j => j) 0 128 0 with ⟨_, h⟩ | ⟨g, h1, h2, h3, h4, h5⟩
  · have h' : (tc_sz B == tc_sz B && A B) = false := h B (by omega) (by omega)
    rw [pB] at h'
    cases h'
  · rw [h4]
    show g = B
    have h3' : (tc_sz g == tc_sz B && A g) = true := h3
    rw [Bool.and_eq_true, beq_iff_eq] at h3'
    rcases Nat.lt_trichotomy g B with l | l | l
    · have := k4 g l h3'.2
      omega
    · exact l
    · have h' : (tc_sz B == tc_sz B && A B) = false := h5 B (by omega) l
      rw [pB] at h'
      cases h'
-- disputes
def tc_dq (T : Nat → Nat → Bool) (s three : Nat) : Bool := three &&& s == three && (tc_sz three == 3 && !(tc_cp (T 0) three == tc_cp (T 1) three))
def tc_ag (T : Nat → Nat → Bool) (s : Nat) : Bool := tc_al (fun j => !tc_dq T s j) 128 0
theorem tc_ag0 (T : Nat → Nat → Bool) : tc_ag T 0 = true := by
  refine (tc_al_iff _ 128 0).mpr (fun j _ _ => ?_)
  show (!tc_dq T 0 j) = true
  unfold tc_dq
  rw [Nat.and_zero]
  cases j with
  | zero => rfl
  | succ j => rfl
-- together
theorem tc_ft_iff (T : Nat → Bool) (g : Nat) : tc_ft T g = true ↔ ∀ j, 1 ≤ j → j < 128 → T j = true → tc_cr g j = false := by
  unfold tc_ft
  rw [tc_al_iff]
  constructor
  · intro h j h1 h2 tj
    have k : (!(tc_cr g j && T j)) = true := h j h1 (by omega)
    rw [tj, Bool.and_true, Bool.not_eq_true'] at k
    exact k
  · intro h j h1 h2
    show (!(tc_cr g j && T j)) = true
    cases tj : T j with
    | false => rw [Bool.and_false]; rfl
    | true => rw [h j h1 (by omega) tj]; rfl
theorem tc_tog1 {P Q : Nat → Bool} (h : tc_al (fun g => !P g || tc_ft Q g) 127 1 = true) : tc_al (fun g => !Q g || tc_ft P g) 127 1 = true := by
  rw [tc_al_iff] at h ⊢
  intro g h1 h2
  show (!Q g || tc_ft P g) = true
  cases qg : Q g with
  | false => rfl
  | true =>
    show tc_ft P g = true
    rw [tc_ft_iff]
    intro j k1 k2 pj
    have k : (!P j || tc_ft Q j) = true := h j k1 (by omega)
    rw [pj] at k
    have k' : tc_ft Q j = true := k
    rw [tc_ft_iff] at k'
    rw [tc_cr_s]
    exact k' g h1 (by omega) qg
theorem tc_tog (P Q : Nat → Bool) : tc_al (fun g => !P g || tc_ft Q g) 127 1 = tc_al (fun g => !Q g || tc_ft P g) 127 1 := tc_beq ⟨tc_tog1, tc_tog1⟩
-- the relation's parts
def tc_en (a b : Bool) : Int32 := cond a (cond b 3 1) (cond b 2 0)
def tc_RX (u : SX) (T : Nat → Nat → Bool) : Prop := ∀ g, g < 128 → u g = tc_en (T 0 g) (T 1 g)
def tc_RY (v : SY) (T : Nat → Nat → Bool) : Prop := ∀ t, t < 2 → ∀ g, g < 128 → v (128 * t + g) = tc_b (T t g)
def tc_st (T : Nat → Nat → Bool) (t g : Nat) (w : Bool) : Nat → Nat → Bool := fun t' g' => cond (t' == t && g' == g) w (T t' g')
def tc_rs (T : Nat → Nat → Bool) (t i : Nat) : Nat → Nat → Bool := fun t' g => cond (t' == t && decide (i ≤ g)) (tc_gv g) (T t' g)
theorem tc_rs_s (T : Nat → Nat → Bool) (t i : Nat) : tc_rs (tc_st T t i (tc_gv i)) t (i + 1) = tc_rs T t i := by
  funext t' g
  unfold tc_rs tc_st
  cases (t' == t) with
  | false => rfl
  | true =>
    show cond (decide (i + 1 ≤ g)) (tc_gv g) (cond (g == i) (tc_gv i) (T t' g)) = cond (decide (i ≤ g)) (tc_gv g) (T t' g)
    rcases Nat.lt_trichotomy g i with l | l | l
    · rw [decide_eq_false (by omega), decide_eq_false (by omega), beq_eq_false_iff_ne.mpr (by omega)]; rfl
    · rw [decide_eq_false (by omega), decide_eq_true (by omega), l, beq_self_eq_true]; rfl
    · rw [decide_eq_true (by omega), decide_eq_true (by omega)]; rfl
theorem tc_RX_e {u : SX} {T : Nat → Nat → Bool} (h : tc_RX u T) (t : Nat) : tc_RX u (tc_rs T t 128) := by
  intro g hg
  have e : ∀ t', tc_rs T t 128 t' g = T t' g := by
    intro t'
    unfold tc_rs
    rw [decide_eq_false (by omega), Bool.and_false]; rfl
  rw [e 0, e 1]
  exact h g hg
theorem tc_RY_e {v : SY} {T : Nat → Nat → Bool} (h : tc_RY v T) (t : Nat) : tc_RY v (tc_rs T t 128) := by
  intro t' ht' g hg
  have e : tc_rs T t 128 t' g = T t' g := by
    unfold tc_rs
    rw [decide_eq_false (by omega), Bool.and_false]; rfl
  rw [e]
  exact h t' ht' g hg
theorem tc_en_or (a b : Bool) (t : Nat) (ht : t < 2) : tc_en a b ||| ((1 : Int32) <<< (nI t &&& 31)) = tc_en (cond (0 == t) true a) (cond (1 == t) true b) := by
  have k : t = 0 ∨ t = 1 := by omega
  rcases k with rfl | rfl <;> cases a <;> cases b <;> decide +kernel
theorem tc_en_an (a b : Bool) (t : Nat) (ht : t < 2) : tc_en a b &&& (((1 : Int32) <<< (nI t &&& 31)) ^^^ (-1)) = tc_en (cond (0 == t) false a) (cond (1 == t) false b) := by
  have k : t = 0 ∨ t = 1 := by omega
  rcases k with rfl | rfl <;> cases a <;> cases b <;> decide +kernel
theorem tc_en_b (T : Nat → Nat → Bool) (g t : Nat) (ht : t < 2) : ((tc_en (T 0 g) (T 1 g) >>> (nI t &&& 31)) &&& 1 = 1) ↔ T t g = true := by
  have k : t = 0 ∨ t = 1 := by omega
  rcases k with rfl | rfl
  · cases T 0 g <;> cases T 1 g <;> decide +kernel
  · cases T 0 g <;> cases T 1 g <;> decide +kernel
theorem tc_st_o (T : Nat → Nat → Bool) (t g : Nat) (w : Bool) (t' g' : Nat) (h : ¬ g' = g) : tc_st T t g w t' g' = T t' g' := by
  unfold tc_st
  rw [beq_eq_false_iff_ne.mpr h, Bool.and_false]; rfl
theorem tc_st_i (T : Nat → Nat → Bool) (t g : Nat) (w : Bool) (t' : Nat) : tc_st T t g w t' g = cond (t' == t) w (T t' g) := by
  unfold tc_st
  rw [beq_self_eq_true, Bool.and_true]
theorem tc_RX_or {u : SX} {T : Nat → Nat → Bool} (h : tc_RX u T) {t g : Nat} (ht : t < 2) (hg : g < 128) : tc_RX (upd u g (u g ||| ((1 : Int32) <<< (nI t &&& 31)))) (tc_st T t g true) := by
  intro j hj
  by_cases e : j = g
  · rw [e, pk_us, h g hg, tc_st_i, tc_st_i]
    exact tc_en_or _ _ t ht
  · rw [pk_un e, tc_st_o _ _ _ _ _ _ e, tc_st_o _ _ _ _ _ _ e]
    exact h j hj
theorem tc_RX_an {u : SX} {T : Nat → Nat → Bool} (h : tc_RX u T) {t g : Nat} (ht : t < 2) (hg : g < 128) : tc_RX (upd u g (u g &&& (((1 : Int32) <<< (nI t &&& 31)) ^^^ (-1)))) (tc_st T t g false) := by
  intro j hj
  by_cases e : j = g
  · rw [e, pk_us, h g hg, tc_st_i, tc_st_i]
    exact tc_en_an _ _ t ht
  · rw [pk_un e, tc_st_o _ _ _ _ _ _ e, tc_st_o _ _ _ _ _ _ e]
    exact h j hj
theorem tc_RY_st {v : SY} {T : Nat → Nat → Bool} (h : tc_RY v T) {t g : Nat} (ht : t < 2) (hg : g < 128) (w : Bool) : tc_RY (upd v (128 * t + g) (tc_b w)) (tc_st T t g w) := by
  intro t' ht' j hj
  by_cases e : 128 * t' + j = 128 * t + g
  · have e1 : t' = t := by omega
    have e2 : j = g := by omega
    rw [e, pk_us, e1, e2, tc_st_i, beq_self_eq_true]; rfl
  · rw [pk_un e, h t' ht' j hj]
    congr 1
    unfold tc_st
    cases a : (t' == t) with
    | false => rfl
    | true =>
      have e1 : t' = t := beq_iff_eq.mp a
      rw [beq_eq_false_iff_ne.mpr (by omega)]; rfl
end
section
-- the class's own walks
theorem tc_x_size_l {post : Int32 → Prop} {g : Nat} (hg : g < 128) : ∀ d m c, m + d = 7 → post (nI (c + tc_sf g d m)) → wX_size_4 post (nI g) (d + 1) (nI c) (nI m) := by
  intro d
  induction d with
  | zero =>
    intro m c hm hp
    have e : m = 7 := by omega
    rw [e]
    exact br_t tc_ge7 hp
  | succ d ih =>
    intro m c hm hp
    refine br_f (tc_lt7 (by omega)) (nm_r (e' := nI (c + g / 2 ^ m % 2)) ?_ (nm_r (nI_1 m) (ih (m + 1) _ (by omega) ?_)))
    · rw [tc_t_bit g hg m (by omega), nI_add]
    · have e : c + tc_sf g (d + 1) m = c + g / 2 ^ m % 2 + tc_sf g d (m + 1) := by
        show c + (g / 2 ^ m % 2 + tc_sf g d (m + 1)) = _
        omega
      rw [← e]; exact hp
theorem tc_x_size {post : Int32 → Prop} {g : Nat} (hg : g < 128) (h : post (nI (tc_sz g))) : wpX_size post (nI g) :=
  ⟨8, tc_x_size_l hg 7 0 0 rfl (by rw [Nat.zero_add]; exact h)⟩
theorem tc_sz31 {g : Nat} (hg : g < 128) : tc_sz g < 2 ^ 31 := Nat.lt_of_le_of_lt (tc_t_sz g hg) (by decide)
theorem tc_x_every {post : Int32 → Prop} {g : Nat} (hg : g < 128) (h : post (tc_b (tc_gv g))) : wpX_isInEveryTree post (nI g) := by
  refine pk_eq g 127 (fun e => ?_) (fun e => tc_x_size hg (pk_eq (tc_sz g) 1 (fun z => ?_) (fun z => ?_) rfl rfl (tc_sz31 hg)))
  · rw [e] at h; exact h
  · have k : tc_gv g = true := by unfold tc_gv; rw [z]; rfl
    rw [k] at h; exact h
  · have k : tc_gv g = false := by unfold tc_gv; rw [beq_eq_false_iff_ne.mpr z, beq_eq_false_iff_ne.mpr e]; rfl
    rw [k] at h; exact h
theorem tc_x_reset_l {post : SX → Prop} {t : Nat} (ht : t < 2) : ∀ d i u T, i + d = 128 → tc_RX u T → (∀ u', tc_RX u' (tc_rs T t i) → post u') → wX_reset_2 post (nI t) (d + 1) (nI i) u := by
  intro d
  induction d with
  | zero =>
    intro i u T hi hu hp
    have e : i = 128 := by omega
    rw [e] at hp ⊢
    exact br_t tc_ge (hp u (tc_RX_e hu t))
  | succ d ih =>
    intro i u T hi hu hp
    have hi' : i < 128 := by omega
    have hin : vp_in (nI i) 128 := vp_in_nI hi' (by decide)
    have hcl : (nI i).toNatClampNeg = i := nI_clamp (by omega)
    refine br_f (tc_lt hi') (tc_x_every hi' (tc_br (fun z => ⟨hin, hin, ?_⟩) (fun z => ⟨hin, hin, ?_⟩)))
    · rw [hcl]
      refine nm_e (nm_r (nI_1 i) (ih (i + 1) _ (tc_st T t i false) (by omega) (tc_RX_an hu ht hi') (fun u' h' => hp u' ?_)))
      rw [← tc_rs_s, z]; exact h'
    · rw [hcl]
      refine nm_e (nm_r (nI_1 i) (ih (i + 1) _ (tc_st T t i true) (by omega) (tc_RX_or hu ht hi') (fun u' h' => hp u' ?_)))
      rw [← tc_rs_s, z]; exact h'
theorem tc_x_reset {post : SX → Prop} {t : Nat} (ht : t < 2) {u : SX} {T : Nat → Nat → Bool} (hu : tc_RX u T) (hp : ∀ u', tc_RX u' (tc_rs T t 1) → post u') : wpX_reset post u (nI t) :=
  ⟨128, tc_x_reset_l ht 127 1 u T rfl hu hp⟩
theorem tc_x_treeT {post : Int32 → Prop} {t : Nat} (ht : t < 2) (h : post 1) : wpX_isTree post (nI t) := by
  have k : t = 0 ∨ t = 1 := by omega
  rcases k with rfl | rfl
  · exact br_t rfl h
  · exact br_f (by decide) (br_t rfl h)
theorem tc_x_treeF {post : Int32 → Prop} {x : Int32} (h0 : ¬ x = 0) (h1 : ¬ x = 1) (h : post 0) : wpX_isTree post x := br_f h0 (br_f h1 h)
theorem tc_tree (x : Int32) : (∃ t : Nat, t < 2 ∧ x = nI t) ∨ (¬ x = 0 ∧ ¬ x = 1) := by
  by_cases h0 : x = 0
  · exact Or.inl ⟨0, by decide, h0⟩
  · by_cases h1 : x = 1
    · exact Or.inl ⟨1, by decide, h1⟩
    · exact Or.inr ⟨h0, h1⟩
theorem tc_set (x : Int32) : (∃ g : Nat, g < 128 ∧ x = nI g) ∨ x < 0 ∨ (¬ x < 0 ∧ 128 ≤ x) := by
  rcases pk_ix x (n := 128) (by decide) with h | h | h
  · exact Or.inr (Or.inl h)
  · by_cases h0 : x < 0
    · exact Or.inr (Or.inl h0)
    · exact Or.inr (Or.inr ⟨h0, h⟩)
  · exact Or.inl h
theorem tc_mem (x : Int32) : (∃ g : Nat, g < 7 ∧ x = nI g) ∨ x < 0 ∨ (¬ x < 0 ∧ 7 ≤ x) := by
  rcases pk_ix x (n := 7) (by decide) with h | h | h
  · exact Or.inr (Or.inl h)
  · by_cases h0 : x < 0
    · exact Or.inr (Or.inl h0)
    · exact Or.inr (Or.inr ⟨h0, h⟩)
  · exact Or.inl h
theorem tc_x_setT {post : Int32 → Prop} {g : Nat} (hg : g < 128) (h : post 1) : wpX_isSet post (nI g) := br_f (nI_pos (by omega)) (br_f (tc_lt hg) h)
theorem tc_x_setF {post : Int32 → Prop} {x : Int32} (hx : x < 0 ∨ (¬ x < 0 ∧ 128 ≤ x)) (h : post 0) : wpX_isSet post x := by
  rcases hx with k | ⟨k, l⟩
  · exact br_t k h
  · exact br_f k (br_t l h)
theorem tc_x_memT {post : Int32 → Prop} {g : Nat} (hg : g < 7) (h : post 1) : wpX_isMember post (nI g) := br_f (nI_pos (by omega)) (br_f (tc_lt7 hg) h)
theorem tc_x_memF {post : Int32 → Prop} {x : Int32} (hx : x < 0 ∨ (¬ x < 0 ∧ 7 ≤ x)) (h : post 0) : wpX_isMember post x := by
  rcases hx with k | ⟨k, l⟩
  · exact br_t k h
  · exact br_f k (br_t l h)
theorem tc_x_has {post : Int32 → Prop} {u : SX} {T : Nat → Nat → Bool} (hu : tc_RX u T) {t g : Nat} (ht : t < 2) (hg : g < 128) (h : post (tc_b (T t g))) : wpX_has post u (nI t) (nI g) := by
  have e : (((u (nI g).toNatClampNeg) >>> (nI t &&& 31)) &&& 1 = 1) ↔ T t g = true := by
    rw [nI_clamp (by omega), hu g hg]
    exact tc_en_b T g t ht
  refine ⟨vp_in_nI hg (by decide), ?_⟩
  cases b : T t g with
  | false => rw [b] at h e; exact br_f (fun z => absurd (e.mp z) (by decide)) h
  | true => rw [b] at h e; exact br_t (e.mpr rfl) h
section
variable {post : Int32 → Prop} {u : SX} {T : Nat → Nat → Bool}
theorem tc_x_fits_l (hu : tc_RX u T) {t g : Nat} (ht : t < 2) (hg : g < 128) : ∀ d j, j + d = 128 → post (tc_b (tc_al (fun j => !(tc_cr g j && T t j)) d j)) → wX_fits_2 post (nI t) (nI g) u (d + 1) (nI j) := by
  intro d
  induction d with
  | zero =>
    intro j hj hp
    have e : j = 128 := by omega
    rw [e]
    exact br_t tc_ge hp
  | succ d ih =>
    intro j hj hp
    have hj' : j < 128 := by omega
    have hgj : g &&& j < 128 := tc_andlt hg j
    have hp' : post (tc_b (!(tc_cr g j && T t j) && tc_al (fun j => !(tc_cr g j && T t j)) d (j + 1))) := hp
    have K : (tc_cr g j && T t j) = false → wX_fits_2 post (nI t) (nI g) u (d + 1) (nI (j + 1)) := by
      intro z
      rw [z] at hp'
      exact ih (j + 1) (by omega) hp'
    have K0 : tc_cr g j = false → wX_fits_35 post (wX_fits_2 post (nI t) (nI g) u (d + 1)) (nI t) (nI g) (nI j) u := fun z =>
      br_t rfl (nm_r (nI_1 j) (K (by rw [z]; rfl)))
    have C : ∀ (_ : g &&& j = 0 ∨ g &&& j = g ∨ g &&& j = j), tc_cr g j = false := by
      intro o
      cases c : tc_cr g j with
      | false => rfl
      | true =>
        obtain ⟨c1, c2, c3⟩ := (tc_cr_iff g j).mp c
        rcases o with o | o | o
        · exact absurd o c1
        · exact absurd o c2
        · exact absurd o c3
    refine br_f (tc_lt hj') (nm_r (nx_and g j) ?_)
    refine pk_eq (g &&& j) 0 (fun z => K0 (C (Or.inl z))) (fun n1 => pk_eq (g &&& j) g (fun z => K0 (C (Or.inr (Or.inl z)))) (fun n2 => pk_eq (g &&& j) j (fun z => K0 (C (Or.inr (Or.inr z)))) (fun n3 => ?_)))
    refine br_f (by decide) (tc_x_has hu ht hj' (tc_br (fun z => nm_r (nI_1 j) (K (by rw [z, Bool.and_false]))) (fun z => ?_)))
    have c : tc_cr g j = true := (tc_cr_iff g j).mpr ⟨n1, n2, n3⟩
    rw [c, z] at hp'
    exact hp'
theorem tc_x_fits (hu : tc_RX u T) {t g : Nat} (ht : t < 2) (hg : g < 128) (h : post (tc_b (tc_ft (T t) g))) : wpX_fits post u (nI t) (nI g) :=
  ⟨128, tc_x_fits_l hu ht hg 127 1 rfl h⟩
theorem tc_x_groups (hu : tc_RX u T) {t : Nat} (ht : t < 2) (h : post (nI (0 + tc_cn (T t) 127 1))) : ∃ n, wX_groups_13 post (nI t) u n 0 1 :=
  ⟨128, tc_cnt (wX_groups_13 post (nI t) u) post (T t) (fun n c z => br_t tc_ge z)
    (fun n i c hi hf hs => br_f (tc_lt hi) (tc_x_has hu ht hi (tc_br (fun z => nm_r (nI_1 i) (hf z)) (fun z => nm_r (nI_1 c) (nm_r (nI_1 i) (hs z)))))) 127 1 0 rfl h⟩
theorem tc_x_join_l (hu : tc_RX u T) {t s : Nat} (ht : t < 2) (hs : s < 128) : ∀ d j, j + d = 128 → post (nI (tc_fi (tc_jq (T t) s) (fun g => g) 127 d j)) → wX_join_24 post (nI t) (nI s) u (d + 1) (nI j) := by
  intro d
  induction d with
  | zero =>
    intro j hj hp
    have e : j = 128 := by omega
    rw [e]
    exact br_t tc_ge hp
  | succ d ih =>
    intro j hj hp
    have hj' : j < 128 := by omega
    have hjs : j &&& s < 128 := tc_andlt hj' s
    have hp' : post (nI (cond (T t j && j &&& s == s) j (tc_fi (tc_jq (T t) s) (fun g => g) 127 d (j + 1)))) := hp
    have K : (T t j && j &&& s == s) = false → wX_join_24 post (nI t) (nI s) u (d + 1) (nI (j + 1)) := by
      intro z
      rw [z] at hp'
      exact ih (j + 1) (by omega) hp'
    refine br_f (tc_lt hj') (tc_x_has hu ht hj' (tc_br (fun z => nm_r (nI_1 j) (K (by rw [z]; rfl))) (fun z => pk_eq (j &&& s) s (fun q => ?_) (fun q => nm_r (nI_1 j) (K (by rw [beq_eq_false_iff_ne.mpr q, Bool.and_false]))) (nx_and j s))))
    rw [z, q, beq_self_eq_true] at hp'
    exact hp'
theorem tc_x_join (hu : tc_RX u T) {t s : Nat} (ht : t < 2) (hs : s < 128) (h : post (nI (tc_fi (tc_jq (T t) s) (fun g => g) 127 127 1))) : ∃ n, wX_join_24 post (nI t) (nI s) u n 1 :=
  ⟨128, tc_x_join_l hu ht hs 127 1 rfl h⟩
theorem tc_x_cp_l (hu : tc_RX u T) {t s : Nat} (ht : t < 2) (hs : s < 128) : ∀ d j, j + d = 128 → post (nI (tc_fi (fun g => T t g && tc_sz (g &&& s) == 2) (fun g => g &&& s) 0 d j)) → wX_closerPair_2 post (nI t) (nI s) u (d + 1) (nI j) := by
  intro d
  induction d with
  | zero =>
    intro j hj hp
    have e : j = 128 := by omega
    rw [e]
    exact br_t tc_ge hp
  | succ d ih =>
    intro j hj hp
    have hj' : j < 128 := by omega
    have hjs : j &&& s < 128 := tc_andlt hj' s
    have hp' : post (nI (cond (T t j && tc_sz (j &&& s) == 2) (j &&& s) (tc_fi (fun g => T t g && tc_sz (g &&& s) == 2) (fun g => g &&& s) 0 d (j + 1)))) := hp
    have K : (T t j && tc_sz (j &&& s) == 2) = false → wX_closerPair_2 post (nI t) (nI s) u (d + 1) (nI (j + 1)) := by
      intro z
      rw [z] at hp'
      exact ih (j + 1) (by omega) hp'
    refine br_f (tc_lt hj') (nm_r (nx_and j s) (tc_x_has hu ht hj' (tc_br (fun z => nm_r (nI_1 j) (K (by rw [z]; rfl))) (fun z => tc_x_size hjs (pk_eq (tc_sz (j &&& s)) 2 (fun q => ?_) (fun q => nm_r (nI_1 j) (K (by rw [beq_eq_false_iff_ne.mpr q, Bool.and_false]))) rfl rfl (tc_sz31 hjs))))))
    rw [z, q] at hp'
    exact hp'
theorem tc_x_cp (hu : tc_RX u T) {t s : Nat} (ht : t < 2) (hs : s < 128) (h : post (nI (tc_cp (T t) s))) : wpX_closerPair post u (nI t) (nI s) :=
  ⟨128, tc_x_cp_l hu ht hs 127 1 rfl h⟩
theorem tc_cp31 (P : Nat → Bool) (s : Nat) : tc_cp P s < 2 ^ 31 := Nat.lt_trans (tc_cp_lt P s) (by decide)
theorem tc_x_decided (hu : tc_RX u T) {t : Nat} (ht : t < 2) (h : post (nI (0 + tc_cn (fun s => tc_sz s == 3 && !(tc_cp (T t) s == 0)) 128 0))) : ∃ n, wX_decided_13 post (nI t) u n 0 0 := by
  refine ⟨129, tc_cnt (wX_decided_13 post (nI t) u) post (fun s => tc_sz s == 3 && !(tc_cp (T t) s == 0)) (fun n c z => br_t tc_ge z) (fun n i c hi hf hs => ?_) 128 0 0 rfl h⟩
  refine br_f (tc_lt hi) (tc_x_size hi (pk_eq (tc_sz i) 3 (fun z => tc_x_cp hu ht hi (pk_eq (tc_cp (T t) i) 0 (fun q => nm_r (nI_1 i) (hf ?_)) (fun q => nm_r (nI_1 c) (nm_r (nI_1 i) (hs ?_))) rfl rfl (tc_cp31 _ _))) (fun z => nm_r (nI_1 i) (hf ?_)) rfl rfl (tc_sz31 hi)))
  · rw [z, q]; rfl
  · rw [z, beq_eq_false_iff_ne.mpr q]; rfl
  · rw [beq_eq_false_iff_ne.mpr z]; rfl
theorem tc_bb {a b : Bool} {A B : Prop} (f : a = b → A) (g : ¬ a = b → B) : (tc_b a = tc_b b → A) ∧ (¬ tc_b a = tc_b b → B) := by
  cases a <;> cases b
  · exact br_t rfl (f rfl)
  · exact br_f (by decide) (g (by decide))
  · exact br_f (by decide) (g (by decide))
  · exact br_t rfl (f rfl)
theorem tc_x_gd (hu : tc_RX u T) (h : post (nI (0 + tc_cn (fun g => !(T 0 g == T 1 g)) 127 1))) : wpX_groupDistance post u := by
  refine ⟨128, tc_cnt (wX_groupDistance_4 post u) post (fun g => !(T 0 g == T 1 g)) (fun n c z => br_t tc_ge z) (fun n i c hi hf hs => ?_) 127 1 0 rfl h⟩
  refine br_f (tc_lt hi) (tc_x_has (t := 0) hu (by decide) hi (tc_x_has (t := 1) hu (by decide) hi (tc_bb (fun z => nm_r (nI_1 i) (hf ?_)) (fun z => nm_r (nI_1 c) (nm_r (nI_1 i) (hs ?_))))))
  · rw [z, beq_self_eq_true]; rfl
  · rw [beq_eq_false_iff_ne.mpr z]; rfl
theorem tc_x_disp (hu : tc_RX u T) {s : Nat} (hs : s < 128) (h : post (nI (0 + tc_cn (tc_dq T s) 128 0))) : wpX_disputesWithin post u (nI s) := by
  refine ⟨129, tc_cnt (wX_disputesWithin_4 post (nI s) u) post (tc_dq T s) (fun n c z => br_t tc_ge z) (fun n i c hi hf ht => ?_) 128 0 0 rfl h⟩
  have his : i &&& s < 128 := tc_andlt hi s
  have K0 : tc_dq T s i = false → wX_disputesWithin_30 post (wX_disputesWithin_4 post (nI s) u n) (nI s) (nI c) (nI i) u := fun z => br_t rfl (nm_r (nI_1 i) (hf z))
  refine br_f (tc_lt hi) (pk_eq (i &&& s) i (fun z => tc_x_size hi (pk_eq (tc_sz i) 3 (fun q => ?_) (fun q => K0 ?_) rfl rfl (tc_sz31 hi))) (fun z => K0 ?_) (nx_and i s))
  · refine br_f (by decide) (tc_x_cp (t := 0) hu (by decide) hi (tc_x_cp (t := 1) hu (by decide) hi (pk_eq (tc_cp (T 0) i) (tc_cp (T 1) i) (fun w => nm_r (nI_1 i) (hf ?_)) (fun w => nm_r (nI_1 c) (nm_r (nI_1 i) (ht ?_))) rfl rfl (tc_cp31 _ _) (tc_cp31 _ _))))
    · unfold tc_dq; rw [w, beq_self_eq_true, Bool.not_true, Bool.and_false, Bool.and_false]
    · unfold tc_dq; rw [z, q, beq_self_eq_true, beq_eq_false_iff_ne.mpr w]; rfl
  · unfold tc_dq; rw [beq_eq_false_iff_ne.mpr q, Bool.false_and, Bool.and_false]
  · unfold tc_dq; rw [beq_eq_false_iff_ne.mpr z, Bool.false_and]
theorem tc_dn (s : Nat) : 0 + tc_cn (tc_dq T s) 128 0 = 0 ↔ tc_ag T s = true := by
  rw [Nat.zero_add]
  exact tc_cn_0 (tc_dq T s) 128 0
theorem tc_dn31 (s : Nat) : 0 + tc_cn (tc_dq T s) 128 0 < 2 ^ 31 := by
  have := tc_cn_le (tc_dq T s) 128 0
  omega
theorem tc_x_large_l (hu : tc_RX u T) : ∀ d i b, i + d = 128 → b < 128 → post (nI (tc_bs (tc_ag T) d i b)) → wX_largestAgreed_4 post u (d + 1) (nI b) (nI i) := by
  intro d
  induction d with
  | zero =>
    intro i b hi hb hp
    have e : i = 128 := by omega
    rw [e]
    exact br_t tc_ge hp
  | succ d ih =>
    intro i b hi hb hp
    have hi' : i < 128 := by omega
    have hp' : post (nI (tc_bs (tc_ag T) d (i + 1) (cond (decide (tc_sz b < tc_sz i) && tc_ag T i) i b))) := hp
    refine br_f (tc_lt hi') (tc_x_size hi' (tc_x_size hb (pk_le (tc_sz i) (tc_sz b) (fun z => nm_r (nI_1 i) (ih (i + 1) b (by omega) hb ?_)) (fun z => tc_x_disp hu hi' (pk_eq (0 + tc_cn (tc_dq T i) 128 0) 0 (fun q => nm_r (nI_1 i) (ih (i + 1) i (by omega) hi' ?_)) (fun q => nm_r (nI_1 i) (ih (i + 1) b (by omega) hb ?_)) rfl rfl (tc_dn31 i))) rfl rfl (tc_sz31 hi') (tc_sz31 hb))))
    · rw [decide_eq_false (by omega)] at hp'
      exact hp'
    · rw [decide_eq_true z, (tc_dn i).mp q] at hp'
      exact hp'
    · have w : tc_ag T i = false := by
        cases a : tc_ag T i with
        | false => rfl
        | true => exact absurd ((tc_dn i).mpr a) q
      rw [w, Bool.and_false] at hp'
      exact hp'
theorem tc_x_large (hu : tc_RX u T) (h : post (nI (tc_bs (tc_ag T) 127 1 0))) : wpX_largestAgreed post u := ⟨128, tc_x_large_l hu 127 1 0 rfl (by decide) h⟩
theorem tc_x_tog_l (hu : tc_RX u T) : ∀ d j, j + d = 128 → post (tc_b (tc_al (fun g => !T 0 g || tc_ft (T 1) g) d j)) → wX_together_2 post u (d + 1) (nI j) := by
  intro d
  induction d with
  | zero =>
    intro j hj hp
    have e : j = 128 := by omega
    rw [e]
    exact br_t tc_ge hp
  | succ d ih =>
    intro j hj hp
    have hj' : j < 128 := by omega
    have hp' : post (tc_b ((!T 0 j || tc_ft (T 1) j) && tc_al (fun g => !T 0 g || tc_ft (T 1) g) d (j + 1))) := hp
    refine br_f (tc_lt hj') (tc_x_has (t := 0) hu (by decide) hj' (tc_br (fun z => nm_r (nI_1 j) (ih (j + 1) (by omega) ?_)) (fun z => tc_x_fits (t := 1) hu (by decide) hj' (tc_br (fun q => ?_) (fun q => nm_r (nI_1 j) (ih (j + 1) (by omega) ?_))))))
    · rw [z] at hp'; exact hp'
    · rw [z, q] at hp'; exact hp'
    · rw [q, Bool.or_true] at hp'; exact hp'
theorem tc_x_tog (hu : tc_RX u T) (h : post (tc_b (tc_al (fun g => !T 0 g || tc_ft (T 1) g) 127 1))) : wpX_together post u := ⟨128, tc_x_tog_l hu 127 1 rfl h⟩
theorem tc_en3 (a b : Bool) : tc_en a b = 3 ↔ (a && b) = true := by cases a <;> cases b <;> decide +kernel
theorem tc_x_common (hu : tc_RX u T) (h : post (nI (0 + tc_cn (fun g => T 0 g && T 1 g) 127 1))) : wpX_common post u := by
  refine ⟨128, tc_cnt (wX_common_4 post u) post (fun g => T 0 g && T 1 g) (fun n c z => br_t tc_ge z) (fun n i c hi hf hs => ?_) 127 1 0 rfl h⟩
  have e : u (nI i).toNatClampNeg = 3 ↔ (T 0 i && T 1 i) = true := by
    rw [nI_clamp (by omega), hu i hi]
    exact tc_en3 _ _
  refine br_f (tc_lt hi) ⟨vp_in_nI hi (by decide), br_c (fun z => nm_r (nI_1 c) (nm_r (nI_1 i) (hs (e.mp z)))) (fun z => nm_r (nI_1 i) (hf ?_))⟩
  cases w : (T 0 i && T 1 i) with
  | false => rfl
  | true => exact absurd (e.mpr w) z
theorem tc_x_depth (hu : tc_RX u T) {t m : Nat} (ht : t < 2) (hm : m < 7) (h : post (nI (0 + tc_cn (fun g => T t g && g / 2 ^ m % 2 == 1) 127 1))) : ∃ n, wX_depth_21 post (nI t) (nI m) u n 0 1 := by
  refine ⟨128, tc_cnt (wX_depth_21 post (nI t) (nI m) u) post (fun g => T t g && g / 2 ^ m % 2 == 1) (fun n c z => br_t tc_ge z) (fun n i c hi hf hs => ?_) 127 1 0 rfl h⟩
  refine br_f (tc_lt hi) (tc_x_has hu ht hi (tc_br (fun z => nm_r (nI_1 i) (hf ?_)) (fun z => pk_eq (i / 2 ^ m % 2) 1 (fun q => nm_r (nI_1 c) (nm_r (nI_1 i) (hs ?_))) (fun q => nm_r (nI_1 i) (hf ?_)) (tc_t_bit i hi m hm) rfl (by omega))))
  · rw [z]; rfl
  · rw [z, q]; rfl
  · rw [beq_eq_false_iff_ne.mpr q, Bool.and_false]
theorem tc_x_room (hu : tc_RX u T) {t : Nat} (ht : t < 2) (h : post (nI (0 + tc_cn (fun g => !T t g && tc_ft (T t) g) 127 1))) : ∃ n, wX_room_13 post (nI t) u n 0 1 := by
  refine ⟨128, tc_cnt (wX_room_13 post (nI t) u) post (fun g => !T t g && tc_ft (T t) g) (fun n c z => br_t tc_ge z) (fun n i c hi hf hs => ?_) 127 1 0 rfl h⟩
  refine br_f (tc_lt hi) (tc_x_has hu ht hi (tc_br (fun z => tc_x_fits hu ht hi (tc_br (fun q => nm_r (nI_1 i) (hf ?_)) (fun q => nm_r (nI_1 c) (nm_r (nI_1 i) (hs ?_))))) (fun z => nm_r (nI_1 i) (hf ?_))))
  · rw [q, Bool.and_false]
  · rw [z, q]; rfl
  · rw [z]; rfl
end
end
section
-- the reference's walks
theorem tc_y_treeT {post : Int32 → Prop} {v : SY} {t : Nat} (ht : t < 2) (h : post 1) : wpY_tree post v (nI t) := by
  have k : t = 0 ∨ t = 1 := by omega
  rcases k with rfl | rfl
  · exact br_t rfl h
  · exact br_f (by decide) (br_t rfl h)
theorem tc_y_treeF {post : Int32 → Prop} {v : SY} {x : Int32} (h0 : ¬ x = 0) (h1 : ¬ x = 1) (h : post 0) : wpY_tree post v x := br_f h0 (br_f h1 h)
theorem tc_y_memT {post : Int32 → Prop} {v : SY} {g : Nat} (hg : g < 7) (h : post 1) : wpY_member post v (nI g) := br_f (nI_pos (by omega)) (br_f (nI_nlt (a := 6) (b := g) (by omega) (by decide)) h)
theorem tc_y_memF {post : Int32 → Prop} {v : SY} {x : Int32} (hx : x < 0 ∨ (¬ x < 0 ∧ 7 ≤ x)) (h : post 0) : wpY_member post v x := by
  rcases hx with k | ⟨k, l⟩
  · exact br_t k h
  · refine br_f k (br_t ?_ h)
    obtain ⟨j, hj, rfl⟩ := nI_of k
    have l' := (nI_leI (a := 7) (b := j) (by omega) hj).mp l
    exact nI_lt (a := 6) (b := j) (by omega) hj
theorem tc_y_count_l {post : Int32 → Prop} {v : SY} {g : Nat} (hg : g < 128) : ∀ d m c, m + d = 7 → post (nI (c + tc_sf g d m)) → wY_count_4 post (nI g) v (d + 1) (nI c) (nI m) := by
  intro d
  induction d with
  | zero =>
    intro m c hm hp
    have e : m = 7 := by omega
    rw [e]
    exact br_t tc_ge7 hp
  | succ d ih =>
    intro m c hm hp
    refine br_f (tc_lt7 (by omega)) (nm_r (e' := nI (c + g / 2 ^ m % 2)) ?_ (nm_r (nI_1 m) (ih (m + 1) _ (by omega) ?_)))
    · rw [tc_t_bit g hg m (by omega), nI_add]
    · have e : c + tc_sf g (d + 1) m = c + g / 2 ^ m % 2 + tc_sf g d (m + 1) := by
        show c + (g / 2 ^ m % 2 + tc_sf g d (m + 1)) = _
        omega
      rw [← e]; exact hp
theorem tc_y_count {post : Int32 → Prop} {v : SY} {g : Nat} (hg : g < 128) (h : post (nI (tc_sz g))) : wpY_count post v (nI g) :=
  ⟨8, tc_y_count_l hg 7 0 0 rfl (by rw [Nat.zero_add]; exact h)⟩
theorem tc_y_given {post : Int32 → Prop} {v : SY} {g : Nat} (hg : g < 128) (h : post (tc_b (tc_gv g))) : wpY_given post v (nI g) := by
  refine tc_y_count hg (pk_eq (tc_sz g) 1 (fun z => ?_) (fun z => pk_eq g 127 (fun e => ?_) (fun e => ?_)) rfl rfl (tc_sz31 hg))
  · have k : tc_gv g = true := by unfold tc_gv; rw [z]; rfl
    rw [k] at h; exact h
  · rw [e] at h; exact h
  · have k : tc_gv g = false := by unfold tc_gv; rw [beq_eq_false_iff_ne.mpr z, beq_eq_false_iff_ne.mpr e]; rfl
    rw [k] at h; exact h
theorem tc_y_in {t g : Nat} (ht : t < 2) (hg : g < 128) : vp_in ((128 * nI t) + nI g) 256 := by
  rw [tc_ix]
  exact vp_in_nI (by omega) (by decide)
theorem tc_y_cl {t g : Nat} (ht : t < 2) (hg : g < 128) : ((128 * nI t) + nI g).toNatClampNeg = 128 * t + g := by
  rw [tc_ix]
  exact nI_clamp (by omega)
theorem tc_y_clear_l {post : Int32 → SY → Prop} {t : Nat} (ht : t < 2) : ∀ d i v T, i + d = 128 → tc_RY v T → (∀ v', tc_RY v' (tc_rs T t i) → post 1 v') → wY_clear_2 post (nI t) (d + 1) (nI i) v := by
  intro d
  induction d with
  | zero =>
    intro i v T hi hv hp
    have e : i = 128 := by omega
    rw [e] at hp ⊢
    exact br_t tc_ge (tc_y_treeT ht ⟨tc_nar true, hp v (tc_RY_e hv t)⟩)
  | succ d ih =>
    intro i v T hi hv hp
    have hi' : i < 128 := by omega
    refine br_f (tc_lt hi') (tc_y_treeT ht (br_f (by decide) (tc_y_given hi' ⟨tc_y_in ht hi', ?_⟩)))
    rw [tc_y_cl ht hi', tc_vnar]
    refine nm_e (nm_r (nI_1 i) (ih (i + 1) _ (tc_st T t i (tc_gv i)) (by omega) (tc_RY_st hv ht hi' (tc_gv i)) (fun v' h' => hp v' ?_)))
    rw [← tc_rs_s]; exact h'
theorem tc_y_clearT {post : Int32 → SY → Prop} {t : Nat} (ht : t < 2) {v : SY} {T : Nat → Nat → Bool} (hv : tc_RY v T) (hp : ∀ v', tc_RY v' (tc_rs T t 1) → post 1 v') : wpY_clear post v (nI t) :=
  ⟨128, tc_y_clear_l ht 127 1 v T rfl hv hp⟩
theorem tc_y_clearF {post : Int32 → SY → Prop} {v : SY} {x : Int32} (h0 : ¬ x = 0) (h1 : ¬ x = 1) (h : post 0 v) : wpY_clear post v x :=
  ⟨1, br_f (by decide) (tc_y_treeF h0 h1 (br_t rfl (tc_y_treeF h0 h1 ⟨tc_nar false, h⟩)))⟩
theorem tc_t_nz {g h : Nat} (hg : g < 128) (hh : h < 128) : (nI g &&& (nI h ^^^ (-1)) = 0) ↔ g &&& h = g := by
  have k := tc_t_not g hg h hh
  constructor
  · intro z
    rw [decide_eq_true z] at k
    exact beq_iff_eq.mp k.symm
  · intro z
    rw [z, beq_self_eq_true] at k
    exact of_decide_eq_true k
section
variable {post : Int32 → Prop} {v : SY} {T : Nat → Nat → Bool}
theorem tc_nzb {g h : Nat} {A B : Prop} (hg : g < 128) (hh : h < 128) (f : g &&& h = g → A) (k : ¬ g &&& h = g → B) : (nI g &&& (nI h ^^^ (-1)) = 0 → A) ∧ (¬ nI g &&& (nI h ^^^ (-1)) = 0 → B) :=
  br_c (fun z => f ((tc_t_nz hg hh).mp z)) (fun z => k (fun e => z ((tc_t_nz hg hh).mpr e)))
theorem tc_y_cross {j g : Nat} (hj : j < 128) (hg : g < 128) (h : post (tc_b (tc_cr g j))) : wpY_crosses post v (nI j) (nI g) := by
  have hjg : j &&& g < 128 := tc_andlt hj g
  have C : ∀ (_ : j &&& g = 0 ∨ j &&& g = j ∨ j &&& g = g), post 0 := by
    intro o
    cases c : tc_cr j g with
    | false => rw [tc_cr_s, c] at h; exact h
    | true =>
      obtain ⟨c1, c2, c3⟩ := (tc_cr_iff j g).mp c
      rcases o with o | o | o
      · exact absurd o c1
      · exact absurd o c2
      · exact absurd o c3
  refine pk_eq (j &&& g) 0 (fun z => C (Or.inl z)) (fun n1 => tc_nzb hj hg (fun z => C (Or.inr (Or.inl z))) (fun n2 => tc_nzb hg hj (fun z => C (Or.inr (Or.inr ?_))) (fun n3 => ?_))) (nx_and j g)
  · rw [Nat.and_comm]; exact z
  · have c : tc_cr j g = true := (tc_cr_iff j g).mpr ⟨n1, n2, fun e => n3 (by rw [Nat.and_comm]; exact e)⟩
    rw [tc_cr_s, c] at h; exact h
theorem tc_y_get (hv : tc_RY v T) {t g : Nat} (ht : t < 2) (hg : g < 128) {A B : Prop} (f : T t g = false → A) (k : T t g = true → B) : vp_in ((128 * nI t) + nI g) 256 ∧ ((v ((128 * nI t) + nI g).toNatClampNeg = 0 → A) ∧ (¬ v ((128 * nI t) + nI g).toNatClampNeg = 0 → B)) := by
  refine ⟨tc_y_in ht hg, ?_⟩
  rw [tc_y_cl ht hg, hv t ht g hg]
  exact tc_br f k
theorem tc_y_get0 (hv : tc_RY v T) {g : Nat} (hg : g < 128) : v (nI g).toNatClampNeg = tc_b (T 0 g) := by
  have k := hv 0 (by decide) g hg
  rw [Nat.mul_zero, Nat.zero_add] at k
  rw [nI_clamp (by omega), k]
theorem tc_y_get1 (hv : tc_RY v T) {g : Nat} (hg : g < 128) : v ((128 : Int32) + nI g).toNatClampNeg = tc_b (T 1 g) := by
  have k := hv 1 (by decide) g hg
  rw [Nat.mul_one] at k
  rw [tc_ix1, nI_clamp (by omega), k]
theorem tc_y_in1 {g : Nat} (hg : g < 128) : vp_in ((128 : Int32) + nI g) 256 := by
  rw [tc_ix1]
  exact vp_in_nI (by omega) (by decide)
theorem tc_y_fits_l (hv : tc_RY v T) {t g : Nat} (ht : t < 2) (hg : g < 128) : ∀ d j f, j + d = 128 → post (tc_b (f && tc_al (fun j => !(tc_cr g j && T t j)) d j)) → wY_fits_5 post (nI t) (nI g) v (d + 1) (tc_b f) (nI j) := by
  intro d
  induction d with
  | zero =>
    intro j f hj hp
    have e : j = 128 := by omega
    rw [e]
    refine br_t tc_ge ⟨tc_nar f, ?_⟩
    have hp' : post (tc_b (f && true)) := hp
    rw [Bool.and_true] at hp'
    exact hp'
  | succ d ih =>
    intro j f hj hp
    have hj' : j < 128 := by omega
    have hp' : post (tc_b (f && (!(tc_cr g j && T t j) && tc_al (fun j => !(tc_cr g j && T t j)) d (j + 1)))) := hp
    refine br_f (tc_lt hj') (tc_br (fun z => nm_r (nI_1 j) (ih (j + 1) false (by omega) ?_)) (fun z => tc_y_get hv ht hj' (fun q => nm_r (nI_1 j) (ih (j + 1) true (by omega) ?_)) (fun q => tc_y_cross hj' hg (tc_br (fun w => nm_r (nI_1 j) (ih (j + 1) true (by omega) ?_)) (fun w => nm_r (nI_1 j) (ih (j + 1) false (by omega) ?_))))))
    · rw [z] at hp'; exact hp'
    · rw [z, q, Bool.and_false] at hp'; exact hp'
    · rw [z, w] at hp'; exact hp'
    · rw [w, q, Bool.and_true, Bool.not_true, Bool.false_and, Bool.and_false] at hp'; exact hp'
theorem tc_y_fits (hv : tc_RY v T) {t g : Nat} (ht : t < 2) (hg : g < 128) (h : post (tc_b (tc_ft (T t) g))) : wpY_fits post v (nI t) (nI g) :=
  ⟨128, tc_y_fits_l hv ht hg 127 1 true rfl (by rw [Bool.true_and]; exact h)⟩
theorem tc_y_groups (hv : tc_RY v T) {t : Nat} (ht : t < 2) (h : post (nI (0 + tc_cn (T t) 127 1))) : wpY_groups post v (nI t) :=
  ⟨128, tc_cnt (wY_groups_4 post (nI t) v) post (T t) (fun n c z => br_t tc_ge (tc_y_treeT ht (br_f (by decide) z)))
    (fun n i c hi hf hs => br_f (tc_lt hi) (tc_y_treeT ht (br_f (by decide) (tc_y_get hv ht hi (fun z => nm_r (nI_1 i) (hf z)) (fun z => nm_r (nI_1 c) (nm_r (nI_1 i) (hs z))))))) 127 1 0 rfl h⟩
theorem tc_y_groupsF {x : Int32} (h0 : ¬ x = 0) (h1 : ¬ x = 1) (h : post (-1)) : wpY_groups post v x :=
  ⟨1, br_f (by decide) (tc_y_treeF h0 h1 (br_t rfl (tc_y_treeF h0 h1 (br_t rfl h))))⟩
theorem tc_y_join_l (hv : tc_RY v T) {t s : Nat} (ht : t < 2) (hs : s < 128) (s0 : 0 < s) : ∀ d i b, i + d = 128 → b < 128 → post (nI (tc_jf (T t) s d i b)) → wY_join_26 post (nI t) (nI s) v (d + 1) (nI b) (nI i) := by
  intro d
  induction d with
  | zero =>
    intro i b hi hb hp
    have e : i = 128 := by omega
    rw [e]
    exact br_t tc_ge (br_f (nI_ne0 s0 (by omega)) hp)
  | succ d ih =>
    intro i b hi hb hp
    have hi' : i < 128 := by omega
    have hp' : post (nI (tc_jf (T t) s d (i + 1) (cond ((T t i && i &&& s == s) && decide (tc_sz i < tc_sz b)) i b))) := hp
    refine br_f (tc_lt hi') (tc_y_get hv ht hi' (fun z => nm_r (nI_1 i) (ih (i + 1) b (by omega) hb ?_)) (fun z => tc_nzb hs hi' (fun q => tc_y_count hi' (tc_y_count hb (pk_le (tc_sz b) (tc_sz i) (fun w => nm_r (nI_1 i) (ih (i + 1) b (by omega) hb ?_)) (fun w => nm_r (nI_1 i) (ih (i + 1) i (by omega) hi' ?_)) rfl rfl (tc_sz31 hb) (tc_sz31 hi')))) (fun q => nm_r (nI_1 i) (ih (i + 1) b (by omega) hb ?_))))
    · rw [z] at hp'; exact hp'
    · rw [decide_eq_false (by omega), Bool.and_false] at hp'; exact hp'
    · have q' : i &&& s = s := by rw [Nat.and_comm]; exact q
      rw [z, q', beq_self_eq_true, decide_eq_true w] at hp'; exact hp'
    · have q' : ¬ i &&& s = s := by rw [Nat.and_comm]; exact q
      rw [beq_eq_false_iff_ne.mpr q', Bool.and_false] at hp'; exact hp'
theorem tc_y_join (hv : tc_RY v T) {t s : Nat} (ht : t < 2) (hs : s < 128) (s0 : 0 < s) (h : post (nI (tc_jf (T t) s 127 1 127))) : ∃ n, wY_join_26 post (nI t) (nI s) v n 127 1 :=
  ⟨128, tc_y_join_l hv ht hs s0 127 1 127 rfl (by decide) h⟩
theorem tc_y_join0_l (hv : tc_RY v T) {t : Nat} (ht : t < 2) (h : post 0) : ∀ d i b, i + d = 128 → b < 128 → wY_join_26 post (nI t) (nI 0) v (d + 1) (nI b) (nI i) := by
  intro d
  induction d with
  | zero =>
    intro i b hi hb
    have e : i = 128 := by omega
    rw [e]
    exact br_t tc_ge (br_t rfl h)
  | succ d ih =>
    intro i b hi hb
    have hi' : i < 128 := by omega
    exact br_f (tc_lt hi') (tc_y_get hv ht hi' (fun z => nm_r (nI_1 i) (ih (i + 1) b (by omega) hb)) (fun z => tc_nzb (by decide) hi' (fun q => tc_y_count hi' (tc_y_count hb (br_c (fun w => nm_r (nI_1 i) (ih (i + 1) b (by omega) hb)) (fun w => nm_r (nI_1 i) (ih (i + 1) i (by omega) hi'))))) (fun q => nm_r (nI_1 i) (ih (i + 1) b (by omega) hb))))
theorem tc_y_join0 (hv : tc_RY v T) {t : Nat} (ht : t < 2) (h : post 0) : ∃ n, wY_join_26 post (nI t) (nI 0) v n 127 1 :=
  ⟨128, tc_y_join0_l hv ht h 127 1 127 rfl (by decide)⟩
theorem tc_y_cl_l (hv : tc_RY v T) {t a b c : Nat} (ht : t < 2) (ha : a < 7) (hb : b < 7) (hc : c < 7) : ∀ d j f, j + d = 128 → post (tc_b (f || tc_ex (fun g => T t g && tc_cq a b c g) d j)) → wY_closer_6 post (nI t) (nI a) (nI b) (nI c) v (d + 1) (tc_b f) (nI j) := by
  intro d
  induction d with
  | zero =>
    intro j f hj hp
    have e : j = 128 := by omega
    rw [e]
    refine br_t tc_ge ⟨tc_nar f, ?_⟩
    have hp' : post (tc_b (f || false)) := hp
    rw [Bool.or_false] at hp'
    exact hp'
  | succ d ih =>
    intro j f hj hp
    have hj' : j < 128 := by omega
    have hp' : post (tc_b (f || ((T t j && (j / 2 ^ a % 2 == 1 && (j / 2 ^ b % 2 == 1 && j / 2 ^ c % 2 == 0))) || tc_ex (fun g => T t g && tc_cq a b c g) d (j + 1)))) := hp
    refine br_f (tc_lt hj') (tc_br (fun z => tc_y_get hv ht hj' (fun q => nm_r (nI_1 j) (ih (j + 1) false (by omega) ?_)) (fun q => pk_eq (j / 2 ^ a % 2) 1 (fun w => pk_eq (j / 2 ^ b % 2) 1 (fun x => pk_eq (j / 2 ^ c % 2) 0 (fun y => nm_r (nI_1 j) (ih (j + 1) true (by omega) ?_)) (fun y => nm_r (nI_1 j) (ih (j + 1) false (by omega) ?_)) (tc_t_bit j hj' c hc) rfl (by omega)) (fun x => nm_r (nI_1 j) (ih (j + 1) false (by omega) ?_)) (tc_t_bit j hj' b hb) rfl (by omega)) (fun w => nm_r (nI_1 j) (ih (j + 1) false (by omega) ?_)) (tc_t_bit j hj' a ha) rfl (by omega))) (fun z => nm_r (nI_1 j) (ih (j + 1) true (by omega) ?_)))
    · rw [z, q] at hp'; exact hp'
    · rw [q, w, x, y, z] at hp'; exact hp'
    · rw [z, beq_eq_false_iff_ne.mpr y, Bool.and_false, Bool.and_false, Bool.and_false] at hp'; exact hp'
    · rw [z, beq_eq_false_iff_ne.mpr x, Bool.false_and, Bool.and_false, Bool.and_false] at hp'; exact hp'
    · rw [z, beq_eq_false_iff_ne.mpr w, Bool.false_and, Bool.and_false] at hp'; exact hp'
    · rw [z, Bool.true_or] at hp'; exact hp'
theorem tc_y_closer (hv : tc_RY v T) {t a b c : Nat} (ht : t < 2) (ha : a < 7) (hb : b < 7) (hc : c < 7) (h : post (tc_b (tc_cl (T t) a b c))) : wpY_closer post v (nI t) (nI a) (nI b) (nI c) :=
  ⟨128, tc_y_cl_l hv ht ha hb hc 127 1 false rfl (by rw [Bool.false_or]; exact h)⟩
theorem tc_nn {a b : Nat} (ha : a < 7) (hb : b < 7) (h : ¬ a = b) : ¬ nI a = nI b := fun z => h ((nI_eq (by omega) (by omega)).mp z)
theorem tc_y_says (hv : tc_RY v T) {t a b c : Nat} (ht : t < 2) (ha : a < 7) (hb : b < 7) (hc : c < 7) (ab : ¬ a = b) (ac : ¬ a = c) (bc : ¬ b = c) (h : post (nI (tc_sy (T t) a b c))) : wpY_says post v (nI t) (nI a) (nI b) (nI c) := by
  have h' : post (nI (cond (tc_cl (T t) b c a) 0 (cond (tc_cl (T t) a c b) 1 (cond (tc_cl (T t) a b c) 2 3)))) := h
  refine tc_y_treeT ht (br_f (by decide) (tc_y_memT ha (br_f (by decide) (tc_y_memT hb (br_f (by decide) (tc_y_memT hc (br_f (by decide) (br_f (tc_nn ha hb ab) (br_f (tc_nn ha hc ac) (br_f (tc_nn hb hc bc) ?_))))))))))
  refine tc_y_closer hv ht hb hc ha (tc_br (fun z => tc_y_closer hv ht ha hc hb (tc_br (fun q => tc_y_closer hv ht ha hb hc (tc_br (fun w => ?_) (fun w => ?_))) (fun q => ?_))) (fun z => ?_))
  · rw [z, q, w] at h'; exact h'
  · rw [z, q, w] at h'; exact h'
  · rw [z, q] at h'; exact h'
  · rw [z] at h'; exact h'
theorem tc_y_about_l {t s : Nat} (hs : s < 128) : ∀ d m a b c, m + d = 7 → wpY_says (fun r => post r) v (nI t) (tc_ab s d m a b c).1 (tc_ab s d m a b c).2.1 (tc_ab s d m a b c).2.2 → wY_about_11 post (nI t) (nI s) v (d + 1) a b c (nI m) := by
  intro d
  induction d with
  | zero =>
    intro m a b c hm hp
    have e : m = 7 := by omega
    rw [e]
    exact br_t tc_ge7 hp
  | succ d ih =>
    intro m a b c hm hp
    have e : tc_ab s (d + 1) m a b c = cond (s / 2 ^ m % 2 == 1) (tc_ab s d (m + 1) b c (nI m)) (tc_ab s d (m + 1) a b c) := rfl
    rw [e] at hp
    refine br_f (tc_lt7 (by omega)) (pk_eq (s / 2 ^ m % 2) 1 (fun z => nm_r (nI_1 m) (ih (m + 1) b c (nI m) (by omega) ?_)) (fun z => nm_r (nI_1 m) (ih (m + 1) a b c (by omega) ?_)) (tc_t_bit s hs m (by omega)) rfl (by omega))
    · rw [z] at hp; exact hp
    · rw [beq_eq_false_iff_ne.mpr z] at hp; exact hp
theorem tc_y_about (hv : tc_RY v T) {t s : Nat} (ht : t < 2) (hs : s < 128) (z : tc_sz s = 3) (h : post (nI (tc_aq (T t) s))) : wpY_about post v (nI t) (nI s) := by
  refine ⟨8, tc_y_about_l hs 7 0 (-1) (-1) (-1) rfl ?_⟩
  show wpY_says (fun r => post r) v (nI t) (tc_a3 s).1 (tc_a3 s).2.1 (tc_a3 s).2.2
  obtain ⟨e1, e2, e3⟩ := tc_t_a3 s hs z
  obtain ⟨h1, h2, h3, n12, n13, n23, _⟩ := tc_t_m s hs z
  rw [e1, e2, e3]
  exact tc_y_says hv ht h1 h2 h3 n12 n13 n23 h
theorem tc_aq31 (P : Nat → Bool) (s : Nat) : tc_aq P s < 2 ^ 31 := Nat.lt_of_le_of_lt (tc_sy_le P _ _ _) (by decide)
theorem tc_y_decided (hv : tc_RY v T) {t : Nat} (ht : t < 2) (L : tc_lam (T t)) (h : post (nI (0 + tc_cn (fun s => tc_sz s == 3 && !(tc_cp (T t) s == 0)) 128 0))) : wpY_decided post v (nI t) := by
  refine ⟨129, tc_cnt (wY_decided_4 post (nI t) v) post (fun s => tc_sz s == 3 && !(tc_cp (T t) s == 0)) (fun n c z => br_t tc_ge (tc_y_treeT ht (br_f (by decide) z))) (fun n i c hi hf hs => ?_) 128 0 0 rfl h⟩
  refine br_f (tc_lt hi) (tc_y_treeT ht (br_f (by decide) (tc_y_count hi (pk_eq (tc_sz i) 3 (fun z => tc_y_about hv ht hi z (pk_eq (tc_aq (T t) i) 3 (fun q => nm_r (nI_1 i) (hf ?_)) (fun q => nm_r (nI_1 c) (nm_r (nI_1 i) (hs ?_))) rfl rfl (tc_aq31 _ _))) (fun z => nm_r (nI_1 i) (hf ?_)) rfl rfl (tc_sz31 hi)))))
  · rw [z, (tc_aq_cp L hi z).mp q]; rfl
  · rw [z, beq_eq_false_iff_ne.mpr (fun e => q ((tc_aq_cp L hi z).mpr e))]; rfl
  · rw [beq_eq_false_iff_ne.mpr z]; rfl
theorem tc_y_decidedF {x : Int32} (h0 : ¬ x = 0) (h1 : ¬ x = 1) (h : post (-1)) : wpY_decided post v x :=
  ⟨1, br_f (by decide) (tc_y_treeF h0 h1 (br_t rfl (tc_y_treeF h0 h1 (br_t rfl h))))⟩
theorem tc_y_gd (hv : tc_RY v T) (h : post (nI (0 + tc_cn (fun g => !(T 0 g == T 1 g)) 127 1))) : wpY_groupDistance post v := by
  refine ⟨128, tc_cnt (wY_groupDistance_4 post v) post (fun g => !(T 0 g == T 1 g)) (fun n c z => br_t tc_ge z) (fun n i c hi hf hs => ?_) 127 1 0 rfl h⟩
  refine br_f (tc_lt hi) ⟨vp_in_nI (by omega) (by decide), tc_y_in1 hi, ?_⟩
  rw [tc_y_get0 hv hi, tc_y_get1 hv hi]
  refine tc_bb (fun z => nm_r (nI_1 i) (hf ?_)) (fun z => nm_r (nI_1 c) (nm_r (nI_1 i) (hs ?_)))
  · rw [z, beq_self_eq_true]; rfl
  · rw [beq_eq_false_iff_ne.mpr z]; rfl
theorem tc_y_td (hv : tc_RY v T) (L0 : tc_lam (T 0)) (L1 : tc_lam (T 1)) (h : post (nI (0 + tc_cn (fun s => tc_sz s == 3 && !(tc_cp (T 0) s == tc_cp (T 1) s)) 128 0))) : wpY_tripleDistance post v := by
  refine ⟨129, tc_cnt (wY_tripleDistance_4 post v) post (fun s => tc_sz s == 3 && !(tc_cp (T 0) s == tc_cp (T 1) s)) (fun n c z => br_t tc_ge z) (fun n i c hi hf hs => ?_) 128 0 0 rfl h⟩
  refine br_f (tc_lt hi) (tc_y_count hi (pk_eq (tc_sz i) 3 (fun z => tc_y_about (t := 0) hv (by decide) hi z (tc_y_about (t := 1) hv (by decide) hi z (pk_eq (tc_aq (T 0) i) (tc_aq (T 1) i) (fun q => nm_r (nI_1 i) (hf ?_)) (fun q => nm_r (nI_1 c) (nm_r (nI_1 i) (hs ?_))) rfl rfl (tc_aq31 _ _) (tc_aq31 _ _)))) (fun z => nm_r (nI_1 i) (hf ?_)) rfl rfl (tc_sz31 hi)))
  · rw [(tc_aq_eq L0 L1 hi z).mp q, beq_self_eq_true, Bool.not_true, Bool.and_false]
  · rw [z, beq_eq_false_iff_ne.mpr (fun e => q ((tc_aq_eq L0 L1 hi z).mpr e))]; rfl
  · rw [beq_eq_false_iff_ne.mpr z]; rfl
theorem tc_y_agree_l (hv : tc_RY v T) (L0 : tc_lam (T 0)) (L1 : tc_lam (T 1)) {s : Nat} (hs : s < 128) : ∀ d j f, j + d = 128 → post (tc_b (f && tc_al (fun j => !tc_dq T s j) d j)) → wY_agree_18 post (nI s) v (d + 1) (tc_b f) (nI j) := by
  intro d
  induction d with
  | zero =>
    intro j f hj hp
    have e : j = 128 := by omega
    rw [e]
    refine br_t tc_ge ⟨tc_nar f, ?_⟩
    have hp' : post (tc_b (f && true)) := hp
    rw [Bool.and_true] at hp'
    exact hp'
  | succ d ih =>
    intro j f hj hp
    have hj' : j < 128 := by omega
    have hp' : post (tc_b (f && (!(tc_dq T s j) && tc_al (fun j => !tc_dq T s j) d (j + 1)))) := hp
    refine br_f (tc_lt hj') (tc_br (fun z => ⟨tc_nar f, ?_⟩) (fun z => tc_nzb hj' hs (fun q => tc_y_count hj' (pk_eq (tc_sz j) 3 (fun w => tc_y_about (t := 0) hv (by decide) hj' w (tc_y_about (t := 1) hv (by decide) hj' w (pk_eq (tc_aq (T 0) j) (tc_aq (T 1) j) (fun x => nm_r (nI_1 j) (ih (j + 1) true (by omega) ?_)) (fun x => nm_r (nI_1 j) (ih (j + 1) false (by omega) ?_)) rfl rfl (tc_aq31 _ _) (tc_aq31 _ _)))) (fun w => nm_r (nI_1 j) (ih (j + 1) true (by omega) ?_)) rfl rfl (tc_sz31 hj'))) (fun q => nm_r (nI_1 j) (ih (j + 1) true (by omega) ?_))))
    · rw [z] at hp' ⊢; exact hp'
    · have k : tc_dq T s j = false := by unfold tc_dq; rw [(tc_aq_eq L0 L1 hj' w).mp x, beq_self_eq_true, Bool.not_true, Bool.and_false, Bool.and_false]
      rw [z, k] at hp'; exact hp'
    · have k : tc_dq T s j = true := by unfold tc_dq; rw [q, w, beq_self_eq_true, beq_eq_false_iff_ne.mpr (fun e => x ((tc_aq_eq L0 L1 hj' w).mpr e))]; rfl
      rw [z, k] at hp'; exact hp'
    · have k : tc_dq T s j = false := by unfold tc_dq; rw [beq_eq_false_iff_ne.mpr w, Bool.false_and, Bool.and_false]
      rw [z, k] at hp'; exact hp'
    · have k : tc_dq T s j = false := by unfold tc_dq; rw [beq_eq_false_iff_ne.mpr q, Bool.false_and]
      rw [z, k] at hp'; exact hp'
theorem tc_lt127 {s : Nat} (hs : s < 128) : ¬ (127 : Int32) < nI s := nI_nlt (a := 127) (b := s) (by omega) (by decide)
theorem tc_gt127 {x : Int32} (h0 : ¬ x < 0) (h : 128 ≤ x) : (127 : Int32) < x := by
  obtain ⟨j, hj, rfl⟩ := nI_of h0
  have l := (nI_leI (a := 128) (b := j) (by decide) hj).mp h
  exact nI_lt (a := 127) (b := j) (by omega) hj
theorem tc_y_agree (hv : tc_RY v T) (L0 : tc_lam (T 0)) (L1 : tc_lam (T 1)) {s : Nat} (hs : s < 128) (h : post (tc_b (tc_ag T s))) : wpY_agree post v (nI s) :=
  br_f (nI_pos (by omega)) (br_f (tc_lt127 hs) ⟨129, tc_y_agree_l hv L0 L1 hs 128 0 true rfl (by rw [Bool.true_and]; exact h)⟩)
theorem tc_y_agreeF {x : Int32} (hx : x < 0 ∨ (¬ x < 0 ∧ 128 ≤ x)) (h : post 0) : wpY_agree post v x := by
  have k : wY_agree_18 post x v 1 0 0 := br_f (by decide) (br_t rfl ⟨tc_nar false, h⟩)
  rcases hx with z | ⟨z, w⟩
  · exact br_t z ⟨1, k⟩
  · exact br_f z (br_t (tc_gt127 z w) ⟨1, k⟩)
theorem tc_y_agm_l (hv : tc_RY v T) (L0 : tc_lam (T 0)) (L1 : tc_lam (T 1)) : ∀ d i b, i + d = 128 → b < 128 → post (nI (tc_sz (tc_bs (tc_ag T) d i b))) → wY_agreement_4 post v (d + 1) (nI (tc_sz b)) (nI i) := by
  intro d
  induction d with
  | zero =>
    intro i b hi hb hp
    have e : i = 128 := by omega
    rw [e]
    exact br_t tc_ge hp
  | succ d ih =>
    intro i b hi hb hp
    have hi' : i < 128 := by omega
    have hp' : post (nI (tc_sz (tc_bs (tc_ag T) d (i + 1) (cond (decide (tc_sz b < tc_sz i) && tc_ag T i) i b)))) := hp
    refine br_f (tc_lt hi') (tc_y_count hi' (pk_le (tc_sz i) (tc_sz b) (fun z => nm_r (nI_1 i) (ih (i + 1) b (by omega) hb ?_)) (fun z => tc_y_agree hv L0 L1 hi' (tc_br (fun q => nm_r (nI_1 i) (ih (i + 1) b (by omega) hb ?_)) (fun q => nm_r (nI_1 i) (ih (i + 1) i (by omega) hi' ?_)))) rfl rfl (tc_sz31 hi') (tc_sz31 hb)))
    · rw [decide_eq_false (by omega)] at hp'; exact hp'
    · rw [q, Bool.and_false] at hp'; exact hp'
    · rw [q, decide_eq_true z] at hp'; exact hp'
theorem tc_bs1 (A : Nat → Bool) (d i b : Nat) : tc_bs A (d + 1) i b = tc_bs A d (i + 1) (cond (decide (tc_sz b < tc_sz i) && A i) i b) := rfl
theorem tc_bs2 (c : Bool) (i : Nat) : cond c i i = i := by cases c <;> rfl
theorem tc_bs0 (A : Nat → Bool) : tc_bs A 128 0 0 = tc_bs A 127 1 0 := by
  have e := tc_bs1 A 127 0 0
  rw [tc_bs2] at e
  exact e
theorem tc_y_agm (hv : tc_RY v T) (L0 : tc_lam (T 0)) (L1 : tc_lam (T 1)) (h : post (nI (tc_sz (tc_bs (tc_ag T) 127 1 0)))) : wpY_agreement post v :=
  ⟨129, tc_y_agm_l hv L0 L1 128 0 0 rfl (by decide) (by rw [tc_bs0]; exact h)⟩
theorem tc_y_ags_l (hv : tc_RY v T) (L0 : tc_lam (T 0)) (L1 : tc_lam (T 1)) {k : Nat} (hk : k < 2 ^ 31) : ∀ d j, j + d = 128 → post (nI (tc_fi (fun j => tc_sz j == k && tc_ag T j) (fun j => j) 0 d j)) → wY_agreeingSet_7 post (nI k) v (d + 1) (nI j) := by
  intro d
  induction d with
  | zero =>
    intro j hj hp
    have e : j = 128 := by omega
    rw [e]
    exact br_t tc_ge hp
  | succ d ih =>
    intro j hj hp
    have hj' : j < 128 := by omega
    have hp' : post (nI (cond (tc_sz j == k && tc_ag T j) j (tc_fi (fun j => tc_sz j == k && tc_ag T j) (fun j => j) 0 d (j + 1)))) := hp
    refine br_f (tc_lt hj') (tc_y_count hj' (pk_eq (tc_sz j) k (fun z => tc_y_agree hv L0 L1 hj' (tc_br (fun q => nm_r (nI_1 j) (ih (j + 1) (by omega) ?_)) (fun q => ?_))) (fun z => nm_r (nI_1 j) (ih (j + 1) (by omega) ?_)) rfl rfl (tc_sz31 hj') hk))
    · rw [q, Bool.and_false] at hp'; exact hp'
    · rw [q, z, beq_self_eq_true] at hp'; exact hp'
    · rw [beq_eq_false_iff_ne.mpr z] at hp'; exact hp'
theorem tc_y_ags (hv : tc_RY v T) (L0 : tc_lam (T 0)) (L1 : tc_lam (T 1)) (h : post (nI (tc_bs (tc_ag T) 127 1 0))) : wpY_agreeingSet post v := by
  refine tc_y_agm hv L0 L1 ⟨129, tc_y_ags_l hv L0 L1 (tc_sz31 (tc_bs_lt _ 127 1 0 (by decide) (by decide))) 128 0 rfl ?_⟩
  rw [tc_bs_fi (tc_ag0 T)]
  exact h
theorem tc_y_tog_l (hv : tc_RY v T) : ∀ d j f, j + d = 128 → post (tc_b (f && tc_al (fun g => !T 1 g || tc_ft (T 0) g) d j)) → wY_together_4 post v (d + 1) (tc_b f) (nI j) := by
  intro d
  induction d with
  | zero =>
    intro j f hj hp
    have e : j = 128 := by omega
    rw [e]
    refine br_t tc_ge ⟨tc_nar f, ?_⟩
    have hp' : post (tc_b (f && true)) := hp
    rw [Bool.and_true] at hp'
    exact hp'
  | succ d ih =>
    intro j f hj hp
    have hj' : j < 128 := by omega
    have hp' : post (tc_b (f && ((!T 1 j || tc_ft (T 0) j) && tc_al (fun g => !T 1 g || tc_ft (T 0) g) d (j + 1)))) := hp
    refine br_f (tc_lt hj') (tc_br (fun z => nm_r (nI_1 j) (ih (j + 1) false (by omega) ?_)) (fun z => ⟨tc_y_in1 hj', ?_⟩))
    · rw [z] at hp'; exact hp'
    · rw [tc_y_get1 hv hj']
      refine tc_br (fun q => nm_r (nI_1 j) (ih (j + 1) true (by omega) ?_)) (fun q => tc_y_fits (t := 0) hv (by decide) hj' (tc_br (fun w => nm_r (nI_1 j) (ih (j + 1) false (by omega) ?_)) (fun w => nm_r (nI_1 j) (ih (j + 1) true (by omega) ?_))))
      · rw [z, q] at hp'; exact hp'
      · rw [z, q, w] at hp'; exact hp'
      · rw [z, w, Bool.or_true] at hp'; exact hp'
theorem tc_y_tog (hv : tc_RY v T) (h : post (tc_b (tc_al (fun g => !T 1 g || tc_ft (T 0) g) 127 1))) : wpY_together post v := ⟨128, tc_y_tog_l hv 127 1 true rfl (by rw [Bool.true_and]; exact h)⟩
theorem tc_y_common (hv : tc_RY v T) (h : post (nI (0 + tc_cn (fun g => T 0 g && T 1 g) 127 1))) : wpY_common post v := by
  refine ⟨128, tc_cnt (wY_common_4 post v) post (fun g => T 0 g && T 1 g) (fun n c z => br_t tc_ge z) (fun n i c hi hf hs => ?_) 127 1 0 rfl h⟩
  refine br_f (tc_lt hi) ⟨vp_in_nI (by omega) (by decide), ?_⟩
  rw [tc_y_get0 hv hi, tc_y_get1 hv hi]
  refine tc_br (fun z => nm_r (nI_1 i) (hf ?_)) (fun z => ⟨tc_y_in1 hi, tc_br (fun q => nm_r (nI_1 i) (hf ?_)) (fun q => nm_r (nI_1 c) (nm_r (nI_1 i) (hs ?_)))⟩)
  · rw [z]; rfl
  · rw [q, Bool.and_false]
  · rw [z, q]; rfl
theorem tc_y_depth (hv : tc_RY v T) {t m : Nat} (ht : t < 2) (hm : m < 7) (h : post (nI (0 + tc_cn (fun g => T t g && g / 2 ^ m % 2 == 1) 127 1))) : wpY_depth post v (nI t) (nI m) := by
  refine ⟨128, tc_cnt (wY_depth_5 post (nI t) (nI m) v) post (fun g => T t g && g / 2 ^ m % 2 == 1) (fun n c z => br_t tc_ge (tc_y_treeT ht (br_f (by decide) (tc_y_memT hm (br_f (by decide) z))))) (fun n i c hi hf hs => ?_) 127 1 0 rfl h⟩
  refine br_f (tc_lt hi) (tc_y_treeT ht (br_f (by decide) (tc_y_memT hm (br_f (by decide) (tc_y_get hv ht hi (fun z => nm_r (nI_1 i) (hf ?_)) (fun z => pk_eq (i / 2 ^ m % 2) 1 (fun q => nm_r (nI_1 c) (nm_r (nI_1 i) (hs ?_))) (fun q => nm_r (nI_1 i) (hf ?_)) (tc_t_bit i hi m hm) rfl (by omega)))))))
  · rw [z]; rfl
  · rw [z, q]; rfl
  · rw [beq_eq_false_iff_ne.mpr q, Bool.and_false]
theorem tc_y_depthF1 {x y : Int32} (h0 : ¬ x = 0) (h1 : ¬ x = 1) (h : post (-1)) : wpY_depth post v x y :=
  ⟨1, br_f (by decide) (tc_y_treeF h0 h1 (br_t rfl (tc_y_treeF h0 h1 (br_t rfl h))))⟩
theorem tc_y_depthF2 {t : Nat} {y : Int32} (ht : t < 2) (hy : y < 0 ∨ (¬ y < 0 ∧ 7 ≤ y)) (h : post (-1)) : wpY_depth post v (nI t) y :=
  ⟨1, br_f (by decide) (tc_y_treeT ht (br_f (by decide) (tc_y_memF hy (br_t rfl (tc_y_treeT ht (br_f (by decide) (tc_y_memF hy (br_t rfl h))))))))⟩
theorem tc_y_room (hv : tc_RY v T) {t : Nat} (ht : t < 2) (h : post (nI (0 + tc_cn (fun g => !T t g && tc_ft (T t) g) 127 1))) : wpY_room post v (nI t) := by
  refine ⟨128, tc_cnt (wY_room_4 post (nI t) v) post (fun g => !T t g && tc_ft (T t) g) (fun n c z => br_t tc_ge (tc_y_treeT ht (br_f (by decide) z))) (fun n i c hi hf hs => ?_) 127 1 0 rfl h⟩
  refine br_f (tc_lt hi) (tc_y_treeT ht (br_f (by decide) (tc_y_get hv ht hi (fun z => tc_y_fits hv ht hi (tc_br (fun q => nm_r (nI_1 i) (hf ?_)) (fun q => nm_r (nI_1 c) (nm_r (nI_1 i) (hs ?_))))) (fun z => nm_r (nI_1 i) (hf ?_)))))
  · rw [q, Bool.and_false]
  · rw [z, q]; rfl
  · rw [z]; rfl
theorem tc_y_roomF {x : Int32} (h0 : ¬ x = 0) (h1 : ¬ x = 1) (h : post (-1)) : wpY_room post v x :=
  ⟨1, br_f (by decide) (tc_y_treeF h0 h1 (br_t rfl (tc_y_treeF h0 h1 (br_t rfl h))))⟩
end
end
section
def tc_ok (T : Nat → Nat → Bool) : Prop := ∀ t, t < 2 → tc_lam (T t) ∧ T t 0 = false
theorem tc_lamU {P Q : Nat → Bool} (L : tc_lam P) (P0 : P 0 = false) {g : Nat} (f : tc_ft P g = true) (hQ : ∀ j, Q j = true → j = g ∨ P j = true) : tc_lam Q := by
  rw [tc_ft_iff] at f
  have K : ∀ j, j < 128 → P j = true → tc_cr g j = false := by
    intro j hj pj
    rcases Nat.eq_zero_or_pos j with z | z
    · rw [z, P0] at pj; cases pj
    · exact f j z hj pj
  intro a ha qa b hb qb
  rcases hQ a qa with e | pa
  · rcases hQ b qb with e' | pb
    · rw [e, e']; exact tc_cr_r g
    · rw [e]; exact K b hb pb
  · rcases hQ b qb with e' | pb
    · rw [e', tc_cr_s]; exact K a ha pa
    · exact L a ha pa b hb pb
theorem tc_lamS {P Q : Nat → Bool} (L : tc_lam P) (hQ : ∀ j, Q j = true → P j = true) : tc_lam Q :=
  fun a ha qa b hb qb => L a ha (hQ a qa) b hb (hQ b qb)
theorem tc_ok_add {T : Nat → Nat → Bool} (h : tc_ok T) {t g : Nat} (ht : t < 2) (g0 : 0 < g) (f : tc_ft (T t) g = true) : tc_ok (tc_st T t g true) := by
  intro t' ht'
  obtain ⟨l, z⟩ := h t' ht'
  have z' : tc_st T t g true t' 0 = false := by rw [tc_st_o _ _ _ _ _ _ (by omega)]; exact z
  refine ⟨?_, z'⟩
  by_cases e : t' = t
  · rw [e] at l z ⊢
    refine tc_lamU l z f (fun j qj => ?_)
    by_cases ej : j = g
    · exact Or.inl ej
    · rw [tc_st_o _ _ _ _ _ _ ej] at qj
      exact Or.inr qj
  · refine tc_lamS l (fun j qj => ?_)
    have k : tc_st T t g true t' j = T t' j := by unfold tc_st; rw [beq_eq_false_iff_ne.mpr e]; rfl
    rw [k] at qj
    exact qj
theorem tc_ok_rem {T : Nat → Nat → Bool} (h : tc_ok T) {t g : Nat} : tc_ok (tc_st T t g false) := by
  intro t' ht'
  obtain ⟨l, z⟩ := h t' ht'
  have k : ∀ j, tc_st T t g false t' j = true → T t' j = true := by
    intro j qj
    unfold tc_st at qj
    cases c : (t' == t && j == g) with
    | true => rw [c] at qj; cases qj
    | false => rw [c] at qj; exact qj
  refine ⟨tc_lamS l k, ?_⟩
  cases c : tc_st T t g false t' 0 with
  | false => rfl
  | true => rw [← z]; exact (k 0 c).symm
theorem tc_ok_rs {T : Nat → Nat → Bool} (h : tc_ok T) (t : Nat) : tc_ok (tc_rs T t 1) := by
  intro t' ht'
  obtain ⟨l, z⟩ := h t' ht'
  have z' : tc_rs T t 1 t' 0 = false := by
    unfold tc_rs
    rw [decide_eq_false (by omega), Bool.and_false]
    exact z
  refine ⟨?_, z'⟩
  by_cases e : t' = t
  · have k : ∀ j, tc_rs T t 1 t' j = true → tc_gv j = true := by
      intro j qj
      rcases Nat.eq_zero_or_pos j with j0 | j0
      · rw [j0, z'] at qj; cases qj
      · unfold tc_rs at qj
        rw [e, beq_self_eq_true, decide_eq_true (by omega)] at qj
        exact qj
    exact fun a ha qa b hb qb => tc_t_gv a ha (k a qa) b hb (k b qb)
  · refine tc_lamS l (fun j qj => ?_)
    unfold tc_rs at qj
    rw [beq_eq_false_iff_ne.mpr e] at qj
    exact qj
def i_Rel (k : Nat) (u : SX) (v : SY) : Prop := ∃ T : Nat → Nat → Bool, tc_RX u T ∧ tc_RY v T ∧ tc_ok T
theorem i_up {k : Nat} {u : SX} {v : SY} (h : i_Rel k u v) : i_Rel (k + 5) u v := h
theorem tc_x00 : tc_RX (fun _ => 0) (fun _ _ => false) := fun g _ => rfl
theorem tc_y00 : tc_RY (fun _ => 0) (fun _ _ => false) := fun t _ g _ => rfl
theorem tc_o00 : tc_ok (fun _ _ => false) := fun t _ => ⟨fun a _ qa => absurd (show false = true from qa) (by decide), rfl⟩
theorem i_vc0 : wpX_init (fun u => wpY_init (fun v => i_Rel 0 u v)) := by
  unfold wpX_init wpY_init
  refine tc_x_reset (t := 0) (by decide) tc_x00 (fun u1 h1 => ?_)
  refine tc_x_reset (t := 1) (by decide) h1 (fun u2 h2 => ?_)
  refine tc_y_clearT (t := 0) (by decide) tc_y00 (fun v1 k1 => ?_)
  refine tc_y_clearT (t := 1) (by decide) k1 (fun v2 k2 => ?_)
  exact ⟨_, h2, k2, tc_ok_rs (tc_ok_rs tc_o00 0) 1⟩
theorem tc_yb {x : Int32} {A B : Prop} (hx : x < 0 ∨ (¬ x < 0 ∧ 128 ≤ x)) (a : A) : (x < 1 → A) ∧ (¬ x < 1 → ((127 < x → A) ∧ (¬ 127 < x → B))) := by
  by_cases h : x < 1
  · exact br_t h a
  · refine br_f h (br_t ?_ a)
    rcases hx with z | ⟨z, w⟩
    · exact absurd (Int32.lt_trans z (by decide)) h
    · exact tc_gt127 z w
theorem tc_yg {g : Nat} {A B C : Prop} (hg : g < 128) (g0 : 0 < g) (c : C) : (nI g < 1 → A) ∧ (¬ nI g < 1 → ((127 < nI g → B) ∧ (¬ 127 < nI g → C))) :=
  br_f (nI_nlt (a := g) (b := 1) (by omega) (by omega)) (br_f (tc_lt127 hg) c)
theorem i_vc_add {k : Nat} {u : SX} {v : SY} (I : i_Rel k u v) (hk : k + 5 ≤ 2560) (v1 : Int32) (v2 : Int32) : wpX_add (fun r u' => wpY_add (fun r' v' => r' = r ∧ i_Rel (k + 5) u' v') v v1 v2) u v1 v2 := by
  obtain ⟨T, hu, hv, hl⟩ := I
  unfold wpX_add wpY_add
  rcases tc_tree v1 with ⟨t, ht, rfl⟩ | ⟨h0, h1⟩
  · rcases tc_set v2 with ⟨g, hg, rfl⟩ | hx
    · refine tc_x_treeT ht (br_f (by decide) (tc_x_setT hg (br_f (by decide) ?_)))
      rcases Nat.eq_zero_or_pos g with rfl | g0
      · exact br_t rfl (tc_y_treeT ht (br_f (by decide) (br_t (by decide) ⟨rfl, T, hu, hv, hl⟩)))
      · refine br_f (nI_ne0 g0 (by omega)) (tc_x_fits hu ht hg (tc_br (fun z => ?_) (fun z => ⟨vp_in_nI hg (by decide), vp_in_nI hg (by decide), ?_⟩)))
        · exact tc_y_treeT ht (br_f (by decide) (tc_yg hg g0 (tc_y_fits hv ht hg (by rw [z]; exact br_t rfl ⟨rfl, T, hu, hv, hl⟩))))
        · refine nm_e (tc_y_treeT ht (br_f (by decide) (tc_yg hg g0 (tc_y_fits hv ht hg (tc_br (fun w => absurd (z.symm.trans w) (by decide)) (fun _ => ⟨tc_y_in ht hg, nm_e ⟨rfl, tc_st T t g true, ?_, ?_, tc_ok_add hl ht g0 z⟩⟩))))))
          · rw [nI_clamp (by omega)]
            exact tc_RX_or hu ht hg
          · rw [tc_y_cl ht hg]
            have e : vp_nar .boolean 1 = tc_b true := tc_vnar true
            rw [e]
            exact tc_RY_st hv ht hg true
    · exact tc_x_treeT ht (br_f (by decide) (tc_x_setF hx (br_t rfl (tc_y_treeT ht (br_f (by decide) (tc_yb hx ⟨rfl, T, hu, hv, hl⟩))))))
  · exact tc_x_treeF h0 h1 (br_t rfl (tc_y_treeF h0 h1 (br_t rfl ⟨rfl, T, hu, hv, hl⟩)))
theorem i_vc_remove {k : Nat} {u : SX} {v : SY} (I : i_Rel k u v) (hk : k + 5 ≤ 2560) (v1 : Int32) (v2 : Int32) : wpX_remove (fun r u' => wpY_remove (fun r' v' => r' = r ∧ i_Rel (k + 5) u' v') v v1 v2) u v1 v2 := by
  obtain ⟨T, hu, hv, hl⟩ := I
  unfold wpX_remove wpY_remove
  rcases tc_tree v1 with ⟨t, ht, rfl⟩ | ⟨h0, h1⟩
  · rcases tc_set v2 with ⟨g, hg, rfl⟩ | hx
    · refine tc_x_treeT ht (br_f (by decide) (tc_x_setT hg (br_f (by decide) (tc_x_has hu ht hg (tc_br (fun z => ?_) (fun z => tc_x_every hg (tc_br (fun q => ⟨vp_in_nI hg (by decide), vp_in_nI hg (by decide), ?_⟩) (fun q => ?_))))))))
      · rcases Nat.eq_zero_or_pos g with rfl | g0
        · exact tc_y_treeT ht (br_f (by decide) (br_t (by decide) ⟨rfl, T, hu, hv, hl⟩))
        · exact tc_y_treeT ht (br_f (by decide) (tc_yg hg g0 (tc_y_given hg (tc_br (fun w => tc_y_get hv ht hg (fun _ => ⟨rfl, T, hu, hv, hl⟩) (fun y => absurd (z.symm.trans y) (by decide))) (fun w => ⟨rfl, T, hu, hv, hl⟩)))))
      · have g0 : 0 < g := by
          rcases Nat.eq_zero_or_pos g with rfl | g0
          · rw [(hl t ht).2] at z; cases z
          · exact g0
        refine nm_e (tc_y_treeT ht (br_f (by decide) (tc_yg hg g0 (tc_y_given hg (tc_br (fun w => tc_y_get hv ht hg (fun y => absurd (z.symm.trans y) (by decide)) (fun _ => ⟨tc_y_in ht hg, nm_e ⟨rfl, tc_st T t g false, ?_, ?_, tc_ok_rem hl⟩⟩)) (fun w => absurd (q.symm.trans w) (by decide)))))))
        · rw [nI_clamp (by omega)]
          exact tc_RX_an hu ht hg
        · rw [tc_y_cl ht hg]
          have e : vp_nar .boolean 0 = tc_b false := tc_vnar false
          rw [e]
          exact tc_RY_st hv ht hg false
      · have g0 : 0 < g := by
          rcases Nat.eq_zero_or_pos g with rfl | g0
          · rw [(hl t ht).2] at z; cases z
          · exact g0
        exact tc_y_treeT ht (br_f (by decide) (tc_yg hg g0 (tc_y_given hg (tc_br (fun w => absurd (q.symm.trans w) (by decide)) (fun w => ⟨rfl, T, hu, hv, hl⟩)))))
    · exact tc_x_treeT ht (br_f (by decide) (tc_x_setF hx (br_t rfl (tc_y_treeT ht (br_f (by decide) (tc_yb hx ⟨rfl, T, hu, hv, hl⟩))))))
  · exact tc_x_treeF h0 h1 (br_t rfl (tc_y_treeF h0 h1 (br_t rfl ⟨rfl, T, hu, hv, hl⟩)))
theorem i_vc_clear {k : Nat} {u : SX} {v : SY} (I : i_Rel k u v) (hk : k + 5 ≤ 2560) (v1 : Int32) : wpX_clear (fun r u' => wpY_clear (fun r' v' => r' = r ∧ i_Rel (k + 5) u' v') v v1) u v1 := by
  obtain ⟨T, hu, hv, hl⟩ := I
  unfold wpX_clear
  rcases tc_tree v1 with ⟨t, ht, rfl⟩ | ⟨h0, h1⟩
  · exact tc_x_treeT ht (br_f (by decide) (tc_x_reset ht hu (fun u' h' => tc_y_clearT ht hv (fun v' k' => ⟨rfl, _, h', k', tc_ok_rs hl t⟩))))
  · exact tc_x_treeF h0 h1 (br_t rfl (tc_y_clearF h0 h1 ⟨rfl, T, hu, hv, hl⟩))
theorem i_vc_groups {k : Nat} {u : SX} {v : SY} (I : i_Rel k u v) (hk : k + 5 ≤ 2560) (v1 : Int32) : wpX_groups (fun r => wpY_groups (fun r' => r' = r ∧ i_Rel (k + 5) u v) v v1) u v1 := by
  obtain ⟨T, hu, hv, hl⟩ := I
  unfold wpX_groups
  rcases tc_tree v1 with ⟨t, ht, rfl⟩ | ⟨h0, h1⟩
  · exact tc_x_treeT ht (br_f (by decide) (tc_x_groups hu ht (tc_y_groups hv ht ⟨rfl, T, hu, hv, hl⟩)))
  · exact tc_x_treeF h0 h1 (br_t rfl (tc_y_groupsF h0 h1 ⟨rfl, T, hu, hv, hl⟩))
theorem i_vc_join {k : Nat} {u : SX} {v : SY} (I : i_Rel k u v) (hk : k + 5 ≤ 2560) (v1 : Int32) (v2 : Int32) : wpX_join (fun r => wpY_join (fun r' => r' = r ∧ i_Rel (k + 5) u v) v v1 v2) u v1 v2 := by
  obtain ⟨T, hu, hv, hl⟩ := I
  unfold wpX_join wpY_join
  rcases tc_tree v1 with ⟨t, ht, rfl⟩ | ⟨h0, h1⟩
  · rcases tc_set v2 with ⟨g, hg, rfl⟩ | hx
    · have l127 : nI g ≤ 127 := nI_le (a := g) (b := 127) (by omega) (by decide)
      refine tc_x_treeT ht (br_f (by decide) (tc_x_setT hg (br_f (by decide) ?_)))
      rcases Nat.eq_zero_or_pos g with rfl | g0
      · exact br_t rfl (tc_y_treeT ht (br_f (by decide) (br_f (by decide) (br_t l127 (tc_y_join0 hv ht ⟨rfl, T, hu, hv, hl⟩)))))
      · refine br_f (nI_ne0 g0 (by omega)) (tc_x_join hu ht hg (tc_y_treeT ht (br_f (by decide) (br_f (nI_pos (by omega)) (br_t l127 (tc_y_join hv ht hg g0 ?_))))))
        rw [tc_join (hl t ht).1 g0 127 1 rfl]
        exact ⟨rfl, T, hu, hv, hl⟩
    · refine tc_x_treeT ht (br_f (by decide) (tc_x_setF hx (br_t rfl (tc_y_treeT ht (br_f (by decide) ?_)))))
      rcases hx with z | ⟨z, w⟩
      · exact br_t z ⟨rfl, T, hu, hv, hl⟩
      · exact br_f z (br_f (Int32.not_le.mpr (tc_gt127 z w)) ⟨rfl, T, hu, hv, hl⟩)
  · exact tc_x_treeF h0 h1 (br_t rfl (tc_y_treeF h0 h1 (br_t rfl ⟨rfl, T, hu, hv, hl⟩)))
theorem tc_prle (a b c : Nat) : tc_pr b c ≤ tc_th a b c ∧ tc_pr a c ≤ tc_th a b c ∧ tc_pr a b ≤ tc_th a b c := by
  unfold tc_pr tc_th
  refine ⟨?_, ?_, Nat.left_le_or⟩
  · rw [Nat.or_assoc]; exact Nat.right_le_or
  · rw [Nat.or_comm (2 ^ a) (2 ^ b), Nat.or_assoc]; exact Nat.right_le_or
theorem i_vc_says {k : Nat} {u : SX} {v : SY} (I : i_Rel k u v) (hk : k + 5 ≤ 2560) (v1 : Int32) (v2 : Int32) (v3 : Int32) (v4 : Int32) : wpX_says (fun r => wpY_says (fun r' => r' = r ∧ i_Rel (k + 5) u v) v v1 v2 v3 v4) u v1 v2 v3 v4 := by
  obtain ⟨T, hu, hv, hl⟩ := I
  have R : i_Rel (k + 5) u v := ⟨T, hu, hv, hl⟩
  unfold wpX_says
  rcases tc_tree v1 with ⟨t, ht, rfl⟩ | ⟨h0, h1⟩
  · refine tc_x_treeT ht (br_f (by decide) ?_)
    rcases tc_mem v2 with ⟨a, ha, rfl⟩ | hx
    · refine tc_x_memT ha (br_f (by decide) ?_)
      rcases tc_mem v3 with ⟨b, hb, rfl⟩ | hx
      · refine tc_x_memT hb (br_f (by decide) ?_)
        rcases tc_mem v4 with ⟨c, hc, rfl⟩ | hx
        · refine tc_x_memT hc (br_f (by decide) ?_)
          by_cases ab : a = b
          · unfold wpY_says
            exact br_t (congrArg nI ab) (tc_y_treeT ht (br_f (by decide) (tc_y_memT ha (br_f (by decide) (tc_y_memT hb (br_f (by decide) (tc_y_memT hc (br_f (by decide) (br_t (congrArg nI ab) ⟨rfl, R⟩)))))))))
          · refine br_f (tc_nn ha hb ab) ?_
            by_cases ac : a = c
            · unfold wpY_says
              exact br_t (congrArg nI ac) (tc_y_treeT ht (br_f (by decide) (tc_y_memT ha (br_f (by decide) (tc_y_memT hb (br_f (by decide) (tc_y_memT hc (br_f (by decide) (br_f (tc_nn ha hb ab) (br_t (congrArg nI ac) ⟨rfl, R⟩))))))))))
            · refine br_f (tc_nn ha hc ac) ?_
              by_cases bc : b = c
              · unfold wpY_says
                exact br_t (congrArg nI bc) (tc_y_treeT ht (br_f (by decide) (tc_y_memT ha (br_f (by decide) (tc_y_memT hb (br_f (by decide) (tc_y_memT hc (br_f (by decide) (br_f (tc_nn ha hb ab) (br_f (tc_nn ha hc ac) (br_t (congrArg nI bc) ⟨rfl, R⟩)))))))))))
              · refine br_f (tc_nn hb hc bc) ?_
                obtain ⟨hs, z3, et⟩ := tc_t_th a ha b hb ab c hc ac bc
                obtain ⟨_, _, _, p1, p2, p3⟩ := tc_t_ne a ha b hb ab c hc ac bc
                obtain ⟨q1, q2, q3, q4, q5⟩ := tc_t_ap a ha b hb ab c hc ac bc
                have Y : ∀ r : Int32, r = nI (tc_sy (T t) a b c) → wpY_says (fun r' => r' = r ∧ i_Rel (k + 5) u v) v (nI t) (nI a) (nI b) (nI c) := fun r e => tc_y_says hv ht ha hb hc ab ac bc ⟨e.symm, R⟩
                have B1 : tc_pr b c < 128 := Nat.lt_of_le_of_lt (tc_prle a b c).1 hs
                have B2 : tc_pr a c < 128 := Nat.lt_of_le_of_lt (tc_prle a b c).2.1 hs
                have B3 : tc_pr a b < 128 := Nat.lt_of_le_of_lt (tc_prle a b c).2.2 hs
                refine nm_r et.symm (tc_x_cp hu ht hs ?_)
                rcases tc_say (hl t ht).1 ha hb hc ab ac bc with ⟨e, y⟩ | ⟨e, y⟩ | ⟨e, y⟩ | ⟨e, y⟩ <;> rw [e] <;> rw [y] at Y
                · exact br_f (nI_ne0 (Nat.pos_of_ne_zero p1) (by omega)) (nm_e (br_t q1 (Y 0 rfl)))
                · exact br_f (nI_ne0 (Nat.pos_of_ne_zero p2) (by omega)) (nm_e (br_f q2 (br_t q3 (Y 1 rfl))))
                · exact br_f (nI_ne0 (Nat.pos_of_ne_zero p3) (by omega)) (nm_e (br_f q4 (br_f q5 (Y 2 rfl))))
                · exact br_t rfl (Y 3 rfl)
        · unfold wpY_says
          exact tc_x_memF hx (br_t rfl (tc_y_treeT ht (br_f (by decide) (tc_y_memT ha (br_f (by decide) (tc_y_memT hb (br_f (by decide) (tc_y_memF hx (br_t rfl ⟨rfl, R⟩)))))))))
      · unfold wpY_says
        exact tc_x_memF hx (br_t rfl (tc_y_treeT ht (br_f (by decide) (tc_y_memT ha (br_f (by decide) (tc_y_memF hx (br_t rfl ⟨rfl, R⟩)))))))
    · unfold wpY_says
      exact tc_x_memF hx (br_t rfl (tc_y_treeT ht (br_f (by decide) (tc_y_memF hx (br_t rfl ⟨rfl, R⟩)))))
  · unfold wpY_says
    exact tc_x_treeF h0 h1 (br_t rfl (tc_y_treeF h0 h1 (br_t rfl ⟨rfl, R⟩)))
theorem i_vc_decided {k : Nat} {u : SX} {v : SY} (I : i_Rel k u v) (hk : k + 5 ≤ 2560) (v1 : Int32) : wpX_decided (fun r => wpY_decided (fun r' => r' = r ∧ i_Rel (k + 5) u v) v v1) u v1 := by
  obtain ⟨T, hu, hv, hl⟩ := I
  unfold wpX_decided
  rcases tc_tree v1 with ⟨t, ht, rfl⟩ | ⟨h0, h1⟩
  · exact tc_x_treeT ht (br_f (by decide) (tc_x_decided hu ht (tc_y_decided hv ht (hl t ht).1 ⟨rfl, T, hu, hv, hl⟩)))
  · exact tc_x_treeF h0 h1 (br_t rfl (tc_y_decidedF h0 h1 ⟨rfl, T, hu, hv, hl⟩))
theorem i_vc_groupDistance {k : Nat} {u : SX} {v : SY} (I : i_Rel k u v) (hk : k + 5 ≤ 2560) : wpX_groupDistance (fun r => wpY_groupDistance (fun r' => r' = r ∧ i_Rel (k + 5) u v) v) u := by
  obtain ⟨T, hu, hv, hl⟩ := I
  exact tc_x_gd hu (tc_y_gd hv ⟨rfl, T, hu, hv, hl⟩)
theorem i_vc_tripleDistance {k : Nat} {u : SX} {v : SY} (I : i_Rel k u v) (hk : k + 5 ≤ 2560) : wpX_tripleDistance (fun r => wpY_tripleDistance (fun r' => r' = r ∧ i_Rel (k + 5) u v) v) u := by
  obtain ⟨T, hu, hv, hl⟩ := I
  unfold wpX_tripleDistance
  refine tc_x_disp (s := 127) hu (by decide) (tc_y_td hv (hl 0 (by decide)).1 (hl 1 (by decide)).1 ⟨?_, T, hu, hv, hl⟩)
  rw [tc_cn_cg 128 0 (fun j _ hj => ?_)]
  show _ = tc_dq T 127 j
  unfold tc_dq
  rw [tc_t_all j (by omega), beq_self_eq_true, Bool.true_and]
theorem i_vc_agreement {k : Nat} {u : SX} {v : SY} (I : i_Rel k u v) (hk : k + 5 ≤ 2560) : wpX_agreement (fun r => wpY_agreement (fun r' => r' = r ∧ i_Rel (k + 5) u v) v) u := by
  obtain ⟨T, hu, hv, hl⟩ := I
  unfold wpX_agreement
  exact tc_x_large hu (tc_x_size (tc_bs_lt _ 127 1 0 (by decide) (by decide)) (tc_y_agm hv (hl 0 (by decide)).1 (hl 1 (by decide)).1 ⟨rfl, T, hu, hv, hl⟩))
theorem i_vc_agreeingSet {k : Nat} {u : SX} {v : SY} (I : i_Rel k u v) (hk : k + 5 ≤ 2560) : wpX_agreeingSet (fun r => wpY_agreeingSet (fun r' => r' = r ∧ i_Rel (k + 5) u v) v) u := by
  obtain ⟨T, hu, hv, hl⟩ := I
  unfold wpX_agreeingSet
  exact tc_x_large hu (tc_y_ags hv (hl 0 (by decide)).1 (hl 1 (by decide)).1 ⟨rfl, T, hu, hv, hl⟩)
theorem i_vc_agree {k : Nat} {u : SX} {v : SY} (I : i_Rel k u v) (hk : k + 5 ≤ 2560) (v1 : Int32) : wpX_agree (fun r => wpY_agree (fun r' => r' = r ∧ i_Rel (k + 5) u v) v v1) u v1 := by
  obtain ⟨T, hu, hv, hl⟩ := I
  have L0 := (hl 0 (by decide)).1
  have L1 := (hl 1 (by decide)).1
  unfold wpX_agree
  rcases tc_set v1 with ⟨s, hs, rfl⟩ | hx
  · refine tc_x_setT hs (br_f (by decide) (tc_x_disp hu hs (pk_eq (0 + tc_cn (tc_dq T s) 128 0) 0 (fun q => tc_y_agree hv L0 L1 hs ⟨?_, T, hu, hv, hl⟩) (fun q => tc_y_agree hv L0 L1 hs ⟨?_, T, hu, hv, hl⟩) rfl rfl (tc_dn31 s))))
    · rw [(tc_dn s).mp q]; rfl
    · cases a : tc_ag T s with
      | false => rfl
      | true => exact absurd ((tc_dn s).mpr a) q
  · exact tc_x_setF hx (br_t rfl (tc_y_agreeF hx ⟨rfl, T, hu, hv, hl⟩))
theorem i_vc_together {k : Nat} {u : SX} {v : SY} (I : i_Rel k u v) (hk : k + 5 ≤ 2560) : wpX_together (fun r => wpY_together (fun r' => r' = r ∧ i_Rel (k + 5) u v) v) u := by
  obtain ⟨T, hu, hv, hl⟩ := I
  exact tc_x_tog hu (tc_y_tog hv ⟨congrArg tc_b (tc_tog (T 1) (T 0)), T, hu, hv, hl⟩)
theorem i_vc_common {k : Nat} {u : SX} {v : SY} (I : i_Rel k u v) (hk : k + 5 ≤ 2560) : wpX_common (fun r => wpY_common (fun r' => r' = r ∧ i_Rel (k + 5) u v) v) u := by
  obtain ⟨T, hu, hv, hl⟩ := I
  exact tc_x_common hu (tc_y_common hv ⟨rfl, T, hu, hv, hl⟩)
theorem i_vc_depth {k : Nat} {u : SX} {v : SY} (I : i_Rel k u v) (hk : k + 5 ≤ 2560) (v1 : Int32) (v2 : Int32) : wpX_depth (fun r => wpY_depth (fun r' => r' = r ∧ i_Rel (k + 5) u v) v v1 v2) u v1 v2 := by
  obtain ⟨T, hu, hv, hl⟩ := I
  unfold wpX_depth
  rcases tc_tree v1 with ⟨t, ht, rfl⟩ | ⟨h0, h1⟩
  · rcases tc_mem v2 with ⟨m, hm, rfl⟩ | hx
    · exact tc_x_treeT ht (br_f (by decide) (tc_x_memT hm (br_f (by decide) (tc_x_depth hu ht hm (tc_y_depth hv ht hm ⟨rfl, T, hu, hv, hl⟩)))))
    · exact tc_x_treeT ht (br_f (by decide) (tc_x_memF hx (br_t rfl (tc_y_depthF2 ht hx ⟨rfl, T, hu, hv, hl⟩))))
  · exact tc_x_treeF h0 h1 (br_t rfl (tc_y_depthF1 h0 h1 ⟨rfl, T, hu, hv, hl⟩))
theorem i_vc_room {k : Nat} {u : SX} {v : SY} (I : i_Rel k u v) (hk : k + 5 ≤ 2560) (v1 : Int32) : wpX_room (fun r => wpY_room (fun r' => r' = r ∧ i_Rel (k + 5) u v) v v1) u v1 := by
  obtain ⟨T, hu, hv, hl⟩ := I
  unfold wpX_room
  rcases tc_tree v1 with ⟨t, ht, rfl⟩ | ⟨h0, h1⟩
  · exact tc_x_treeT ht (br_f (by decide) (tc_x_room hu ht (tc_y_room hv ht ⟨rfl, T, hu, hv, hl⟩)))
  · exact tc_x_treeF h0 h1 (br_t rfl (tc_y_roomF h0 h1 ⟨rfl, T, hu, hv, hl⟩))
end
