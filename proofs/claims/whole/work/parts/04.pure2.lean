-- join
def tc_jq (T : Nat → Bool) (s g : Nat) : Bool := T g && g &&& s == s
def tc_jf (T : Nat → Bool) (s : Nat) : Nat → Nat → Nat → Nat
  | 0, _, b => b
  | d + 1, i, b => tc_jf T s d (i + 1) (cond (tc_jq T s i && decide (tc_sz i < tc_sz b)) i b)
theorem tc_jf_st (T : Nat → Bool) (s : Nat) : ∀ d i b, (∀ j, i ≤ j → j < i + d → tc_jq T s j = true → ¬ tc_sz j < tc_sz b) → tc_jf T s d i b = b := by
  intro d
  induction d with
  | zero => intro i b _; rfl
  | succ d ih =>
    intro i b h
    have e : cond (tc_jq T s i && decide (tc_sz i < tc_sz b)) i b = b := by
      cases q : tc_jq T s i with
      | false => rfl
      | true => rw [decide_eq_false (h i (Nat.le_refl _) (by omega) q)]; rfl
    show tc_jf T s d (i + 1) (cond (tc_jq T s i && decide (tc_sz i < tc_sz b)) i b) = b
    rw [e]
    exact ih (i + 1) b (fun j h1 h2 => h j (by omega) (by omega))
theorem tc_jq_iff (T : Nat → Bool) (s g : Nat) : tc_jq T s g = true ↔ T g = true ∧ g &&& s = s := by
  unfold tc_jq
  rw [Bool.and_eq_true, beq_iff_eq]
theorem tc_join {T : Nat → Bool} (L : tc_lam T) {s : Nat} (hs : 0 < s) : ∀ d i, i + d = 128 → tc_jf T s d i 127 = tc_fi (tc_jq T s) (fun g => g) 127 d i := by
  intro d
  induction d with
  | zero => intro i _; rfl
  | succ d ih =>
    intro i hi
    show tc_jf T s d (i + 1) (cond (tc_jq T s i && decide (tc_sz i < tc_sz 127)) i 127) = cond (tc_jq T s i) i (tc_fi (tc_jq T s) (fun g => g) 127 d (i + 1))
    cases q : tc_jq T s i with
    | false => exact ih (i + 1) (by omega)
    | true =>
      show tc_jf T s d (i + 1) (cond (decide (tc_sz i < tc_sz 127)) i 127) = i
      by_cases z : tc_sz i < tc_sz 127
      · rw [decide_eq_true z]
        refine tc_jf_st T s d (i + 1) i (fun j h1 h2 qj => ?_)
        obtain ⟨ti, si⟩ := (tc_jq_iff T s i).mp q
        obtain ⟨tj, sj⟩ := (tc_jq_iff T s j).mp qj
        have l := L i (by omega) ti j (by omega) tj
        have c : ¬ tc_cr i j = true := by rw [l]; decide
        rw [tc_cr_iff] at c
        have n0 : ¬ i &&& j = 0 := by
          intro e
          have k : (i &&& j) &&& s = s := by rw [Nat.and_assoc, sj, si]
          rw [e, Nat.zero_and] at k
          omega
        have nj : ¬ i &&& j = j := by
          intro e
          have k : i &&& j ≤ i := Nat.and_le_left
          omega
        have ei : i &&& j = i := by
          by_cases e : i &&& j = i
          · exact e
          · exact absurd ⟨n0, e, nj⟩ c
        have k := tc_t_sub i (by omega) j (by omega) ei
        omega
      · have e := tc_t_sz7 i (by omega) z
        rw [decide_eq_false z]
        have d0 : d = 0 := by omega
        rw [d0, e]
        rfl
-- the largest agreed set
def tc_bs (A : Nat → Bool) : Nat → Nat → Nat → Nat
  | 0, _, b => b
  | d + 1, i, b => tc_bs A d (i + 1) (cond (decide (tc_sz b < tc_sz i) && A i) i b)
theorem tc_bs_lt (A : Nat → Bool) : ∀ d i b, i + d ≤ 128 → b < 128 → tc_bs A d i b < 128 := by
  intro d
  induction d with
  | zero => intro i b _ h; exact h
  | succ d ih =>
    intro i b hi h
    refine ih (i + 1) _ (by omega) ?_
    cases (decide (tc_sz b < tc_sz i) && A i) with
    | false => exact h
    | true => show i < 128; omega
theorem tc_bs_sp (A : Nat → Bool) : ∀ d i b, A b = true → b < i → (∀ j, j < i → A j = true → tc_sz j ≤ tc_sz b) → (∀ j, j < b → A j = true → tc_sz j < tc_sz b) →
    A (tc_bs A d i b) = true ∧ tc_bs A d i b < i + d ∧ (∀ j, j < i + d → A j = true → tc_sz j ≤ tc_sz (tc_bs A d i b)) ∧ (∀ j, j < tc_bs A d i b → A j = true → tc_sz j < tc_sz (tc_bs A d i b)) := by
  intro d
  induction d with
  | zero => intro i b h1 h2 h3 h4; exact ⟨h1, h2, h3, h4⟩
  | succ d ih =>
    intro i b h1 h2 h3 h4
    have e : i + (d + 1) = i + 1 + d := by omega
    rw [e]
    show A (tc_bs A d (i + 1) (cond (decide (tc_sz b < tc_sz i) && A i) i b)) = true ∧ tc_bs A d (i + 1) (cond (decide (tc_sz b < tc_sz i) && A i) i b) < i + 1 + d ∧ (∀ j, j < i + 1 + d → A j = true → tc_sz j ≤ tc_sz (tc_bs A d (i + 1) (cond (decide (tc_sz b < tc_sz i) && A i) i b))) ∧ (∀ j, j < tc_bs A d (i + 1) (cond (decide (tc_sz b < tc_sz i) && A i) i b) → A j = true → tc_sz j < tc_sz (tc_bs A d (i + 1) (cond (decide (tc_sz b < tc_sz i) && A i) i b)))
    by_cases z : tc_sz b < tc_sz i
    · cases ai : A i with
      | true =>
        rw [decide_eq_true z]
        show A (tc_bs A d (i + 1) i) = true ∧ _
        refine ih (i + 1) i ai (by omega) (fun j hj aj => ?_) (fun j hj aj => ?_)
        · rcases Nat.eq_or_lt_of_le (Nat.lt_succ_iff.mp hj) with e | e
          · rw [e]; exact Nat.le_refl _
          · have := h3 j e aj; omega
        · have := h3 j hj aj; omega
      | false =>
        rw [decide_eq_true z]
        show A (tc_bs A d (i + 1) b) = true ∧ _
        refine ih (i + 1) b h1 (by omega) (fun j hj aj => ?_) h4
        rcases Nat.eq_or_lt_of_le (Nat.lt_succ_iff.mp hj) with e | e
        · rw [e, ai] at aj; cases aj
        · exact h3 j e aj
    · rw [decide_eq_false z]
      show A (tc_bs A d (i + 1) b) = true ∧ _
      refine ih (i + 1) b h1 (by omega) (fun j hj aj => ?_) h4
      rcases Nat.eq_or_lt_of_le (Nat.lt_succ_iff.mp hj) with e | e
      · rw [e]; omega
      · exact h3 j e aj
theorem tc_bs_fi {A : Nat → Bool} (a0 : A 0 = true) : tc_fi (fun j => tc_sz j == tc_sz (tc_bs A 127 1 0) && A j) (fun j => j) 0 128 0 = tc_bs A 127 1 0 := by
  obtain ⟨k1, k2, k3, k4⟩ := tc_bs_sp A 127 1 0 a0 (by omega) (fun j hj _ => by have e : j = 0 := by omega
                                                                                rw [e]; exact Nat.le_refl _) (fun j hj _ => absurd hj (by omega))
  generalize tc_bs A 127 1 0 = B at k1 k2 k3 k4 ⊢
  have pB : (tc_sz B == tc_sz B && A B) = true := by rw [beq_self_eq_true, k1]; rfl
  rcases tc_fi_c (fun j => tc_sz j == tc_sz B && A j) (fun j => j) 0 128 0 with ⟨_, h⟩ | ⟨g, h1, h2, h3, h4, h5⟩
  · have h' : (tc_sz B == tc_sz B && A B) = false := h B (by omega) (by omega)
    rw [pB] at h'
    cases h'
  · rw [h4]
    show g = B
    have h3' : (tc_sz g == tc_sz B && A g) = true := h3
    rw [Bool.and_eq_true, beq_iff_eq] at h3'
    rcases Nat.lt_trichotomy g B with l | l | l
    · have := k4 g l h3'.2
      omega
    · exact l
    · have h' : (tc_sz B == tc_sz B && A B) = false := h5 B (by omega) l
      rw [pB] at h'
      cases h'
-- disputes
def tc_dq (T : Nat → Nat → Bool) (s three : Nat) : Bool := three &&& s == three && (tc_sz three == 3 && !(tc_cp (T 0) three == tc_cp (T 1) three))
def tc_ag (T : Nat → Nat → Bool) (s : Nat) : Bool := tc_al (fun j => !tc_dq T s j) 128 0
theorem tc_ag0 (T : Nat → Nat → Bool) : tc_ag T 0 = true := by
  refine (tc_al_iff _ 128 0).mpr (fun j _ _ => ?_)
  show (!tc_dq T 0 j) = true
  unfold tc_dq
  rw [Nat.and_zero]
  cases j with
  | zero => rfl
  | succ j => rfl
-- together
theorem tc_ft_iff (T : Nat → Bool) (g : Nat) : tc_ft T g = true ↔ ∀ j, 1 ≤ j → j < 128 → T j = true → tc_cr g j = false := by
  unfold tc_ft
  rw [tc_al_iff]
  constructor
  · intro h j h1 h2 tj
    have k : (!(tc_cr g j && T j)) = true := h j h1 (by omega)
    rw [tj, Bool.and_true, Bool.not_eq_true'] at k
    exact k
  · intro h j h1 h2
    show (!(tc_cr g j && T j)) = true
    cases tj : T j with
    | false => rw [Bool.and_false]; rfl
    | true => rw [h j h1 (by omega) tj]; rfl
theorem tc_tog1 {P Q : Nat → Bool} (h : tc_al (fun g => !P g || tc_ft Q g) 127 1 = true) : tc_al (fun g => !Q g || tc_ft P g) 127 1 = true := by
  rw [tc_al_iff] at h ⊢
  intro g h1 h2
  show (!Q g || tc_ft P g) = true
  cases qg : Q g with
  | false => rfl
  | true =>
    show tc_ft P g = true
    rw [tc_ft_iff]
    intro j k1 k2 pj
    have k : (!P j || tc_ft Q j) = true := h j k1 (by omega)
    rw [pj] at k
    have k' : tc_ft Q j = true := k
    rw [tc_ft_iff] at k'
    rw [tc_cr_s]
    exact k' g h1 (by omega) qg
theorem tc_tog (P Q : Nat → Bool) : tc_al (fun g => !P g || tc_ft Q g) 127 1 = tc_al (fun g => !Q g || tc_ft P g) 127 1 := tc_beq ⟨tc_tog1, tc_tog1⟩
-- the relation's parts
def tc_en (a b : Bool) : Int32 := cond a (cond b 3 1) (cond b 2 0)
def tc_RX (u : SX) (T : Nat → Nat → Bool) : Prop := ∀ g, g < 128 → u g = tc_en (T 0 g) (T 1 g)
def tc_RY (v : SY) (T : Nat → Nat → Bool) : Prop := ∀ t, t < 2 → ∀ g, g < 128 → v (128 * t + g) = tc_b (T t g)
def tc_st (T : Nat → Nat → Bool) (t g : Nat) (w : Bool) : Nat → Nat → Bool := fun t' g' => cond (t' == t && g' == g) w (T t' g')
def tc_rs (T : Nat → Nat → Bool) (t i : Nat) : Nat → Nat → Bool := fun t' g => cond (t' == t && decide (i ≤ g)) (tc_gv g) (T t' g)
theorem tc_rs_s (T : Nat → Nat → Bool) (t i : Nat) : tc_rs (tc_st T t i (tc_gv i)) t (i + 1) = tc_rs T t i := by
  funext t' g
  unfold tc_rs tc_st
  cases (t' == t) with
  | false => rfl
  | true =>
    show cond (decide (i + 1 ≤ g)) (tc_gv g) (cond (g == i) (tc_gv i) (T t' g)) = cond (decide (i ≤ g)) (tc_gv g) (T t' g)
    rcases Nat.lt_trichotomy g i with l | l | l
    · rw [decide_eq_false (by omega), decide_eq_false (by omega), beq_eq_false_iff_ne.mpr (by omega)]; rfl
    · rw [decide_eq_false (by omega), decide_eq_true (by omega), l, beq_self_eq_true]; rfl
    · rw [decide_eq_true (by omega), decide_eq_true (by omega)]; rfl
theorem tc_RX_e {u : SX} {T : Nat → Nat → Bool} (h : tc_RX u T) (t : Nat) : tc_RX u (tc_rs T t 128) := by
  intro g hg
  have e : ∀ t', tc_rs T t 128 t' g = T t' g := by
    intro t'
    unfold tc_rs
    rw [decide_eq_false (by omega), Bool.and_false]; rfl
  rw [e 0, e 1]
  exact h g hg
theorem tc_RY_e {v : SY} {T : Nat → Nat → Bool} (h : tc_RY v T) (t : Nat) : tc_RY v (tc_rs T t 128) := by
  intro t' ht' g hg
  have e : tc_rs T t 128 t' g = T t' g := by
    unfold tc_rs
    rw [decide_eq_false (by omega), Bool.and_false]; rfl
  rw [e]
  exact h t' ht' g hg
theorem tc_en_or (a b : Bool) (t : Nat) (ht : t < 2) : tc_en a b ||| ((1 : Int32) <<< (nI t &&& 31)) = tc_en (cond (0 == t) true a) (cond (1 == t) true b) := by
  have k : t = 0 ∨ t = 1 := by omega
  rcases k with rfl | rfl <;> cases a <;> cases b <;> decide +kernel
theorem tc_en_an (a b : Bool) (t : Nat) (ht : t < 2) : tc_en a b &&& (((1 : Int32) <<< (nI t &&& 31)) ^^^ (-1)) = tc_en (cond (0 == t) false a) (cond (1 == t) false b) := by
  have k : t = 0 ∨ t = 1 := by omega
  rcases k with rfl | rfl <;> cases a <;> cases b <;> decide +kernel
theorem tc_en_b (T : Nat → Nat → Bool) (g t : Nat) (ht : t < 2) : ((tc_en (T 0 g) (T 1 g) >>> (nI t &&& 31)) &&& 1 = 1) ↔ T t g = true := by
  have k : t = 0 ∨ t = 1 := by omega
  rcases k with rfl | rfl
  · cases T 0 g <;> cases T 1 g <;> decide +kernel
  · cases T 0 g <;> cases T 1 g <;> decide +kernel
theorem tc_st_o (T : Nat → Nat → Bool) (t g : Nat) (w : Bool) (t' g' : Nat) (h : ¬ g' = g) : tc_st T t g w t' g' = T t' g' := by
  unfold tc_st
  rw [beq_eq_false_iff_ne.mpr h, Bool.and_false]; rfl
theorem tc_st_i (T : Nat → Nat → Bool) (t g : Nat) (w : Bool) (t' : Nat) : tc_st T t g w t' g = cond (t' == t) w (T t' g) := by
  unfold tc_st
  rw [beq_self_eq_true, Bool.and_true]
theorem tc_RX_or {u : SX} {T : Nat → Nat → Bool} (h : tc_RX u T) {t g : Nat} (ht : t < 2) (hg : g < 128) : tc_RX (upd u g (u g ||| ((1 : Int32) <<< (nI t &&& 31)))) (tc_st T t g true) := by
  intro j hj
  by_cases e : j = g
  · rw [e, pk_us, h g hg, tc_st_i, tc_st_i]
    exact tc_en_or _ _ t ht
  · rw [pk_un e, tc_st_o _ _ _ _ _ _ e, tc_st_o _ _ _ _ _ _ e]
    exact h j hj
theorem tc_RX_an {u : SX} {T : Nat → Nat → Bool} (h : tc_RX u T) {t g : Nat} (ht : t < 2) (hg : g < 128) : tc_RX (upd u g (u g &&& (((1 : Int32) <<< (nI t &&& 31)) ^^^ (-1)))) (tc_st T t g false) := by
  intro j hj
  by_cases e : j = g
  · rw [e, pk_us, h g hg, tc_st_i, tc_st_i]
    exact tc_en_an _ _ t ht
  · rw [pk_un e, tc_st_o _ _ _ _ _ _ e, tc_st_o _ _ _ _ _ _ e]
    exact h j hj
theorem tc_RY_st {v : SY} {T : Nat → Nat → Bool} (h : tc_RY v T) {t g : Nat} (ht : t < 2) (hg : g < 128) (w : Bool) : tc_RY (upd v (128 * t + g) (tc_b w)) (tc_st T t g w) := by
  intro t' ht' j hj
  by_cases e : 128 * t' + j = 128 * t + g
  · have e1 : t' = t := by omega
    have e2 : j = g := by omega
    rw [e, pk_us, e1, e2, tc_st_i, beq_self_eq_true]; rfl
  · rw [pk_un e, h t' ht' j hj]
    congr 1
    unfold tc_st
    cases a : (t' == t) with
    | false => rfl
    | true =>
      have e1 : t' = t := beq_iff_eq.mp a
      rw [beq_eq_false_iff_ne.mpr (by omega)]; rfl
