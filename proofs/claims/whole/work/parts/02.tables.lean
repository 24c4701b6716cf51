-- closed tables
set_option maxRecDepth 100000 in
theorem tc_t_bit : ∀ g, g < 128 → ∀ m, m < 7 → ((nI g >>> (nI m &&& 31)) &&& 1) = nI (g / 2 ^ m % 2) := by decide +kernel
set_option maxRecDepth 100000 in
theorem tc_t_not : ∀ g, g < 128 → ∀ h, h < 128 → (decide (nI g &&& (nI h ^^^ (-1)) = 0)) = (g &&& h == g) := by decide +kernel
set_option maxRecDepth 100000 in
theorem tc_t_sub : ∀ g, g < 128 → ∀ h, h < 128 → g &&& h = g → tc_sz g ≤ tc_sz h := by decide +kernel
set_option maxRecDepth 100000 in
theorem tc_t_gv : ∀ g, g < 128 → tc_gv g = true → ∀ h, h < 128 → tc_gv h = true → tc_cr g h = false := by decide +kernel
set_option maxRecDepth 100000 in
theorem tc_t_sz : ∀ g, g < 128 → tc_sz g ≤ 7 := by decide +kernel
set_option maxRecDepth 100000 in
theorem tc_t_sz7 : ∀ g, g < 128 → ¬ tc_sz g < tc_sz 127 → g = 127 := by decide +kernel
set_option maxRecDepth 100000 in
theorem tc_t_all : ∀ g, g < 128 → g &&& 127 = g := by decide +kernel
theorem tc_t_gv0 : tc_gv 0 = false := by decide +kernel
-- three members
def tc_th (a b c : Nat) : Nat := 2 ^ a ||| 2 ^ b ||| 2 ^ c
def tc_pr (a b : Nat) : Nat := 2 ^ a ||| 2 ^ b
theorem tc_all {p : Nat → Bool} (h : tc_al p 128 0 = true) (x : Nat) (hx : x < 128) : p x = true := (tc_al_iff p 128 0).mp h x (Nat.zero_le _) (by omega)
theorem tc_imp {p q : Bool} (h : (!p || q) = true) (hp : p = true) : q = true := by
  rw [hp] at h
  exact h
theorem tc_tri {a b c : Nat} {q : Bool} (h : (a == b || (a == c || (b == c || q))) = true) (ab : ¬ a = b) (ac : ¬ a = c) (bc : ¬ b = c) : q = true := by
  rw [beq_eq_false_iff_ne.mpr ab, beq_eq_false_iff_ne.mpr ac, beq_eq_false_iff_ne.mpr bc] at h
  exact h
def tc_w2 (s x y : Nat) : Bool := !(y &&& s == y) || (!(tc_sz y == 2) || (x == y || tc_cr x y))
def tc_w1 (s x : Nat) : Bool := !(x &&& s == x) || (!(tc_sz x == 2) || tc_al (tc_w2 s x) 128 0)
def tc_w0 (s : Nat) : Bool := !(tc_sz s == 3) || tc_al (tc_w1 s) 128 0
set_option maxRecDepth 100000 in
theorem tc_t_w : ∀ s, s < 128 → tc_w0 s = true := by decide +kernel
theorem tc_t_two (s : Nat) (hs : s < 128) (z : tc_sz s = 3) (x : Nat) (hx : x < 128) (xs : x &&& s = x) (x2 : tc_sz x = 2) (y : Nat) (hy : y < 128) (ys : y &&& s = y) (y2 : tc_sz y = 2) (ne : ¬ x = y) : tc_cr x y = true := by
  have h0 : tc_w1 s x = true := tc_all (tc_imp (p := tc_sz s == 3) (tc_t_w s hs) (beq_iff_eq.mpr z)) x hx
  have h1 : tc_w2 s x y = true := tc_all (tc_imp (p := tc_sz x == 2) (tc_imp (p := x &&& s == x) h0 (beq_iff_eq.mpr xs)) (beq_iff_eq.mpr x2)) y hy
  have h2 : (x == y || tc_cr x y) = true := tc_imp (p := tc_sz y == 2) (tc_imp (p := y &&& s == y) h1 (beq_iff_eq.mpr ys)) (beq_iff_eq.mpr y2)
  rw [beq_eq_false_iff_ne.mpr ne] at h2
  exact h2
abbrev tc_P1 (a b c : Nat) : Prop := tc_th a b c < 128 ∧ tc_sz (tc_th a b c) = 3 ∧ (nI (tc_th a b c) = (((1 : Int32) <<< (nI a &&& 31)) ||| ((1 : Int32) <<< (nI b &&& 31))) ||| ((1 : Int32) <<< (nI c &&& 31)))
def tc_p1 (a b c : Nat) : Bool := decide (tc_P1 a b c)
set_option maxRecDepth 100000 in
theorem tc_t_p1 : ∀ a, a < 7 → ∀ b, b < 7 → ∀ c, c < 7 → (a == b || (a == c || (b == c || tc_p1 a b c))) = true := by decide +kernel
theorem tc_t_th (a : Nat) (ha : a < 7) (b : Nat) (hb : b < 7) (ab : ¬ a = b) (c : Nat) (hc : c < 7) (ac : ¬ a = c) (bc : ¬ b = c) : tc_P1 a b c := of_decide_eq_true (tc_tri (q := tc_p1 a b c) (tc_t_p1 a ha b hb c hc) ab ac bc)
abbrev tc_P2 (a b c : Nat) : Prop := ¬ tc_pr b c = tc_pr a c ∧ ¬ tc_pr b c = tc_pr a b ∧ ¬ tc_pr a c = tc_pr a b ∧ ¬ tc_pr b c = 0 ∧ ¬ tc_pr a c = 0 ∧ ¬ tc_pr a b = 0
def tc_p2 (a b c : Nat) : Bool := decide (tc_P2 a b c)
set_option maxRecDepth 100000 in
theorem tc_t_p2 : ∀ a, a < 7 → ∀ b, b < 7 → ∀ c, c < 7 → (a == b || (a == c || (b == c || tc_p2 a b c))) = true := by decide +kernel
theorem tc_t_ne (a : Nat) (ha : a < 7) (b : Nat) (hb : b < 7) (ab : ¬ a = b) (c : Nat) (hc : c < 7) (ac : ¬ a = c) (bc : ¬ b = c) : tc_P2 a b c := of_decide_eq_true (tc_tri (q := tc_p2 a b c) (tc_t_p2 a ha b hb c hc) ab ac bc)
abbrev tc_P3 (a b c : Nat) : Prop :=
    nI (tc_th a b c) &&& (nI (tc_pr b c) ^^^ (-1)) = (1 : Int32) <<< (nI a &&& 31)
    ∧ ¬ nI (tc_th a b c) &&& (nI (tc_pr a c) ^^^ (-1)) = (1 : Int32) <<< (nI a &&& 31)
    ∧ nI (tc_th a b c) &&& (nI (tc_pr a c) ^^^ (-1)) = (1 : Int32) <<< (nI b &&& 31)
    ∧ ¬ nI (tc_th a b c) &&& (nI (tc_pr a b) ^^^ (-1)) = (1 : Int32) <<< (nI a &&& 31)
    ∧ ¬ nI (tc_th a b c) &&& (nI (tc_pr a b) ^^^ (-1)) = (1 : Int32) <<< (nI b &&& 31)
def tc_p3 (a b c : Nat) : Bool := decide (tc_P3 a b c)
set_option maxRecDepth 100000 in
theorem tc_t_p3 : ∀ a, a < 7 → ∀ b, b < 7 → ∀ c, c < 7 → (a == b || (a == c || (b == c || tc_p3 a b c))) = true := by decide +kernel
theorem tc_t_ap (a : Nat) (ha : a < 7) (b : Nat) (hb : b < 7) (ab : ¬ a = b) (c : Nat) (hc : c < 7) (ac : ¬ a = c) (bc : ¬ b = c) : tc_P3 a b c := of_decide_eq_true (tc_tri (q := tc_p3 a b c) (tc_t_p3 a ha b hb c hc) ab ac bc)
def tc_p4 (a b c : Nat) : Bool := tc_al (fun g => (tc_sz (g &&& tc_th a b c) == 2) == (g &&& tc_th a b c == tc_pr b c || (g &&& tc_th a b c == tc_pr a c || g &&& tc_th a b c == tc_pr a b))) 128 0
set_option maxRecDepth 100000 in
theorem tc_t_p4 : ∀ a, a < 7 → ∀ b, b < 7 → ∀ c, c < 7 → (a == b || (a == c || (b == c || tc_p4 a b c))) = true := by decide +kernel
theorem tc_t_A (a : Nat) (ha : a < 7) (b : Nat) (hb : b < 7) (ab : ¬ a = b) (c : Nat) (hc : c < 7) (ac : ¬ a = c) (bc : ¬ b = c) : ∀ g, g < 128 → (tc_sz (g &&& tc_th a b c) == 2) = (g &&& tc_th a b c == tc_pr b c || (g &&& tc_th a b c == tc_pr a c || g &&& tc_th a b c == tc_pr a b)) := fun g hg => beq_iff_eq.mp (tc_all (tc_tri (q := tc_p4 a b c) (tc_t_p4 a ha b hb c hc) ab ac bc) g hg)
def tc_cq (a b c g : Nat) : Bool := g / 2 ^ a % 2 == 1 && (g / 2 ^ b % 2 == 1 && g / 2 ^ c % 2 == 0)
def tc_p5 (a b c : Nat) : Bool := tc_al (fun g => tc_cq b c a g == (g &&& tc_th a b c == tc_pr b c) && (tc_cq a c b g == (g &&& tc_th a b c == tc_pr a c) && tc_cq a b c g == (g &&& tc_th a b c == tc_pr a b))) 128 0
set_option maxRecDepth 100000 in
theorem tc_t_p5 : ∀ a, a < 7 → ∀ b, b < 7 → ∀ c, c < 7 → (a == b || (a == c || (b == c || tc_p5 a b c))) = true := by decide +kernel
theorem tc_t_B (a : Nat) (ha : a < 7) (b : Nat) (hb : b < 7) (ab : ¬ a = b) (c : Nat) (hc : c < 7) (ac : ¬ a = c) (bc : ¬ b = c) : ∀ g, g < 128 → tc_cq b c a g = (g &&& tc_th a b c == tc_pr b c) ∧ tc_cq a c b g = (g &&& tc_th a b c == tc_pr a c) ∧ tc_cq a b c g = (g &&& tc_th a b c == tc_pr a b) := fun g hg => by
  have h : (tc_cq b c a g == (g &&& tc_th a b c == tc_pr b c) && (tc_cq a c b g == (g &&& tc_th a b c == tc_pr a c) && tc_cq a b c g == (g &&& tc_th a b c == tc_pr a b))) = true := tc_all (tc_tri (q := tc_p5 a b c) (tc_t_p5 a ha b hb c hc) ab ac bc) g hg
  rw [Bool.and_eq_true, Bool.and_eq_true, beq_iff_eq, beq_iff_eq, beq_iff_eq] at h
  exact h
-- the three members of a set of three, as the reference gathers them
def tc_ab (s : Nat) : Nat → Nat → Int32 → Int32 → Int32 → Int32 × Int32 × Int32
  | 0, _, a, b, c => (a, b, c)
  | d + 1, m, a, b, c => cond (s / 2 ^ m % 2 == 1) (tc_ab s d (m + 1) b c (nI m)) (tc_ab s d (m + 1) a b c)
def tc_a3 (s : Nat) : Int32 × Int32 × Int32 := tc_ab s 7 0 (-1) (-1) (-1)
def tc_m1 (s : Nat) : Nat := (tc_a3 s).1.toNatClampNeg
def tc_m2 (s : Nat) : Nat := (tc_a3 s).2.1.toNatClampNeg
def tc_m3 (s : Nat) : Nat := (tc_a3 s).2.2.toNatClampNeg
set_option maxRecDepth 100000 in
theorem tc_t_a3 : ∀ s, s < 128 → tc_sz s = 3 → (tc_a3 s).1 = nI (tc_m1 s) ∧ (tc_a3 s).2.1 = nI (tc_m2 s) ∧ (tc_a3 s).2.2 = nI (tc_m3 s) := by decide +kernel
set_option maxRecDepth 100000 in
theorem tc_t_m : ∀ s, s < 128 → tc_sz s = 3 → tc_m1 s < 7 ∧ tc_m2 s < 7 ∧ tc_m3 s < 7 ∧ ¬ tc_m1 s = tc_m2 s ∧ ¬ tc_m1 s = tc_m3 s ∧ ¬ tc_m2 s = tc_m3 s ∧ tc_th (tc_m1 s) (tc_m2 s) (tc_m3 s) = s := by decide +kernel
