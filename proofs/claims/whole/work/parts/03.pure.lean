-- trees
def tc_lam (T : Nat → Bool) : Prop := ∀ g, g < 128 → T g = true → ∀ h, h < 128 → T h = true → tc_cr g h = false
theorem tc_cr_iff (g h : Nat) : tc_cr g h = true ↔ ¬ g &&& h = 0 ∧ ¬ g &&& h = g ∧ ¬ g &&& h = h := by
  unfold tc_cr
  rw [Bool.and_eq_true, Bool.and_eq_true, Bool.not_eq_true', Bool.not_eq_true', Bool.not_eq_true', beq_eq_false_iff_ne, beq_eq_false_iff_ne, beq_eq_false_iff_ne]
theorem tc_cr_s (g h : Nat) : tc_cr g h = tc_cr h g := by
  apply tc_beq
  rw [tc_cr_iff, tc_cr_iff, Nat.and_comm h g]
  exact ⟨fun z => ⟨z.1, z.2.2, z.2.1⟩, fun z => ⟨z.1, z.2.2, z.2.1⟩⟩
theorem tc_cr_r (g : Nat) : tc_cr g g = false := by
  cases h : tc_cr g g with
  | false => rfl
  | true => exact absurd (Nat.and_self g) ((tc_cr_iff g g).mp h).2.1
theorem tc_and4 (g h s : Nat) : (g &&& s) &&& (h &&& s) = (g &&& h) &&& s := by
  rw [Nat.and_assoc g s, Nat.and_comm h s, ← Nat.and_assoc s s h, Nat.and_self, Nat.and_comm s h, ← Nat.and_assoc]
theorem tc_cr_up (g h s : Nat) (z : tc_cr (g &&& s) (h &&& s) = true) : tc_cr g h = true := by
  rw [tc_cr_iff, tc_and4] at z
  rw [tc_cr_iff]
  refine ⟨fun e => z.1 ?_, fun e => z.2.1 ?_, fun e => z.2.2 ?_⟩
  · rw [e]; exact Nat.zero_and _
  · rw [e]
  · rw [e]
theorem tc_andlt {g : Nat} (h : g < 128) (s : Nat) : g &&& s < 128 := Nat.lt_of_le_of_lt Nat.and_le_left h
theorem tc_andlt' {g : Nat} (h : g < 128) (s : Nat) : s &&& g < 128 := Nat.lt_of_le_of_lt Nat.and_le_right h
theorem tc_ands (g s : Nat) : (g &&& s) &&& s = g &&& s := by rw [Nat.and_assoc, Nat.and_self]
theorem tc_uni {T : Nat → Bool} (L : tc_lam T) {s g h : Nat} (hs : s < 128) (z : tc_sz s = 3) (hg : g < 128) (hh : h < 128) (tg : T g = true) (th : T h = true) (zg : tc_sz (g &&& s) = 2) (zh : tc_sz (h &&& s) = 2) : g &&& s = h &&& s := by
  by_cases e : g &&& s = h &&& s
  · exact e
  · have k := tc_cr_up g h s (tc_t_two s hs z (g &&& s) (tc_andlt hg s) (tc_ands g s) zg (h &&& s) (tc_andlt hh s) (tc_ands h s) zh e)
    rw [L g hg tg h hh th] at k
    cases k
def tc_ft (T : Nat → Bool) (g : Nat) : Bool := tc_al (fun j => !(tc_cr g j && T j)) 127 1
def tc_cp (T : Nat → Bool) (s : Nat) : Nat := tc_fi (fun g => T g && tc_sz (g &&& s) == 2) (fun g => g &&& s) 0 127 1
def tc_cl (T : Nat → Bool) (a b c : Nat) : Bool := tc_ex (fun g => T g && tc_cq a b c g) 127 1
def tc_sy (T : Nat → Bool) (a b c : Nat) : Nat := cond (tc_cl T b c a) 0 (cond (tc_cl T a c b) 1 (cond (tc_cl T a b c) 2 3))
theorem tc_cp_lt (T : Nat → Bool) (s : Nat) : tc_cp T s < 128 := by
  rcases tc_fi_c (fun g => T g && tc_sz (g &&& s) == 2) (fun g => g &&& s) 0 127 1 with ⟨h, _⟩ | ⟨g, h1, h2, h3, h4, _⟩
  · show tc_fi _ _ _ _ _ < 128
    rw [h]; decide
  · show tc_fi _ _ _ _ _ < 128
    rw [h4]; exact tc_andlt (by omega) s
theorem tc_exf {p : Nat → Bool} (h : ∀ j, 1 ≤ j → j < 128 → p j = false) : tc_ex p 127 1 = false := by
  cases e : tc_ex p 127 1 with
  | false => rfl
  | true =>
    obtain ⟨j, h1, h2, h3⟩ := (tc_ex_iff p 127 1).mp e
    rw [h j h1 (by omega)] at h3
    cases h3
theorem tc_ext {p : Nat → Bool} (j : Nat) (h1 : 1 ≤ j) (h2 : j < 128) (h : p j = true) : tc_ex p 127 1 = true := (tc_ex_iff p 127 1).mpr ⟨j, h1, by omega, h⟩
theorem tc_say {T : Nat → Bool} (L : tc_lam T) {a b c : Nat} (ha : a < 7) (hb : b < 7) (hc : c < 7) (ab : ¬ a = b) (ac : ¬ a = c) (bc : ¬ b = c) :
    (tc_cp T (tc_th a b c) = tc_pr b c ∧ tc_sy T a b c = 0) ∨ (tc_cp T (tc_th a b c) = tc_pr a c ∧ tc_sy T a b c = 1) ∨ (tc_cp T (tc_th a b c) = tc_pr a b ∧ tc_sy T a b c = 2) ∨ (tc_cp T (tc_th a b c) = 0 ∧ tc_sy T a b c = 3) := by
  have hA := tc_t_A a ha b hb ab c hc ac bc
  have hB := tc_t_B a ha b hb ab c hc ac bc
  obtain ⟨hs, z3, _⟩ := tc_t_th a ha b hb ab c hc ac bc
  obtain ⟨n1, n2, n3, _⟩ := tc_t_ne a ha b hb ab c hc ac bc
  generalize tc_th a b c = s at hA hB hs z3 ⊢
  have hno : ∀ q : Nat → Bool, ∀ w : Nat, (∀ g, g < 128 → q g = (g &&& s == w)) → (∀ g, g < 128 → T g = true → ¬ g &&& s = w) → tc_ex (fun g => T g && q g) 127 1 = false := by
    intro q w hq hw
    apply tc_exf
    intro j h1 h2
    cases tj : T j with
    | false => simp [tj]
    | true =>
      rw [hq j h2, Bool.true_and]
      exact beq_eq_false_iff_ne.mpr (hw j h2 tj)
  have hye : ∀ q : Nat → Bool, ∀ w : Nat, (∀ g, g < 128 → q g = (g &&& s == w)) → ∀ g, 1 ≤ g → g < 128 → T g = true → g &&& s = w → tc_ex (fun g => T g && q g) 127 1 = true := by
    intro q w hq g h1 h2 tg hw
    apply tc_ext g h1 h2
    show (T g && q g) = true
    rw [tg, hq g h2, hw, Bool.true_and]
    exact beq_self_eq_true w
  have q1 : ∀ g, g < 128 → tc_cq b c a g = (g &&& s == tc_pr b c) := fun g h => (hB g h).1
  have q2 : ∀ g, g < 128 → tc_cq a c b g = (g &&& s == tc_pr a c) := fun g h => (hB g h).2.1
  have q3 : ∀ g, g < 128 → tc_cq a b c g = (g &&& s == tc_pr a b) := fun g h => (hB g h).2.2
  rcases tc_fi_c (fun g => T g && tc_sz (g &&& s) == 2) (fun g => g &&& s) 0 127 1 with ⟨h, hn⟩ | ⟨g, h1, h2, h3, h4, _⟩
  · have hz : ∀ g, g < 128 → T g = true → ¬ (tc_sz (g &&& s) == 2) = true := by
      intro g hg tg e
      rcases Nat.eq_zero_or_pos g with g0 | g0
      · rw [g0, Nat.zero_and] at e
        exact absurd e (by decide)
      · have k := hn g g0 (by omega)
        simp only [tg, e, Bool.and_self] at k
        cases k
    have e1 : ∀ g, g < 128 → T g = true → ¬ g &&& s = tc_pr b c := fun g hg tg e => hz g hg tg (by rw [hA g hg, e]; simp)
    have e2 : ∀ g, g < 128 → T g = true → ¬ g &&& s = tc_pr a c := fun g hg tg e => hz g hg tg (by rw [hA g hg, e]; simp)
    have e3 : ∀ g, g < 128 → T g = true → ¬ g &&& s = tc_pr a b := fun g hg tg e => hz g hg tg (by rw [hA g hg, e]; simp)
    refine Or.inr (Or.inr (Or.inr ⟨h, ?_⟩))
    unfold tc_sy tc_cl
    rw [hno _ _ q1 e1, hno _ _ q2 e2, hno _ _ q3 e3]
    rfl
  · have h2' : g < 128 := by omega
    have tg : T g = true := (Bool.and_eq_true _ _ ▸ h3 : T g = true ∧ _).1
    have zg : (tc_sz (g &&& s) == 2) = true := (Bool.and_eq_true _ _ ▸ h3 : _ ∧ (tc_sz (g &&& s) == 2) = true).2
    have one : ∀ j, j < 128 → T j = true → (tc_sz (j &&& s) == 2) = true → j &&& s = g &&& s := fun j hj tj zj =>
      tc_uni L hs z3 hj h2' tj tg (beq_iff_eq.mp zj) (beq_iff_eq.mp zg)
    have ne : ∀ w, ¬ g &&& s = w → (w = tc_pr b c ∨ w = tc_pr a c ∨ w = tc_pr a b) → ∀ j, j < 128 → T j = true → ¬ j &&& s = w := by
      intro w hw ho j hj tj e
      apply hw
      rw [← e]
      refine (one j hj tj ?_).symm
      rw [hA j hj, e]
      rcases ho with o | o | o <;> rw [o] <;> simp
    have zz := zg
    rw [hA g h2', Bool.or_eq_true, Bool.or_eq_true, beq_iff_eq, beq_iff_eq, beq_iff_eq] at zz
    have hcp : tc_cp T s = g &&& s := h4
    rw [hcp]
    unfold tc_sy tc_cl
    rcases zz with e | e | e
    · refine Or.inl ⟨e, ?_⟩
      rw [hye _ _ q1 g h1 h2' tg e]; rfl
    · refine Or.inr (Or.inl ⟨e, ?_⟩)
      rw [hno _ _ q1 (ne _ (by rw [e]; exact fun z => n1 z.symm) (Or.inl rfl)), hye _ _ q2 g h1 h2' tg e]; rfl
    · refine Or.inr (Or.inr (Or.inl ⟨e, ?_⟩))
      rw [hno _ _ q1 (ne _ (by rw [e]; exact fun z => n2 z.symm) (Or.inl rfl)), hno _ _ q2 (ne _ (by rw [e]; exact fun z => n3 z.symm) (Or.inr (Or.inl rfl))), hye _ _ q3 g h1 h2' tg e]; rfl
def tc_aq (T : Nat → Bool) (s : Nat) : Nat := tc_sy T (tc_m1 s) (tc_m2 s) (tc_m3 s)
theorem tc_sy_le (T : Nat → Bool) (a b c : Nat) : tc_sy T a b c ≤ 3 := by
  unfold tc_sy
  cases tc_cl T b c a <;> cases tc_cl T a c b <;> cases tc_cl T a b c <;> decide
theorem tc_aq_cp {T : Nat → Bool} (L : tc_lam T) {s : Nat} (hs : s < 128) (z : tc_sz s = 3) : tc_aq T s = 3 ↔ tc_cp T s = 0 := by
  obtain ⟨h1, h2, h3, n12, n13, n23, e⟩ := tc_t_m s hs z
  obtain ⟨_, _, _, p1, p2, p3⟩ := tc_t_ne _ h1 _ h2 n12 _ h3 n13 n23
  have k := tc_say L h1 h2 h3 n12 n13 n23
  rw [e] at k
  unfold tc_aq
  rcases k with ⟨c, y⟩ | ⟨c, y⟩ | ⟨c, y⟩ | ⟨c, y⟩ <;> rw [c, y]
  · exact ⟨fun q => absurd q (by decide), fun q => absurd q p1⟩
  · exact ⟨fun q => absurd q (by decide), fun q => absurd q p2⟩
  · exact ⟨fun q => absurd q (by decide), fun q => absurd q p3⟩
  · exact ⟨fun _ => rfl, fun _ => rfl⟩
theorem tc_aq_eq {T U : Nat → Bool} (L : tc_lam T) (M : tc_lam U) {s : Nat} (hs : s < 128) (z : tc_sz s = 3) : tc_aq T s = tc_aq U s ↔ tc_cp T s = tc_cp U s := by
  obtain ⟨h1, h2, h3, n12, n13, n23, e⟩ := tc_t_m s hs z
  obtain ⟨d1, d2, d3, p1, p2, p3⟩ := tc_t_ne _ h1 _ h2 n12 _ h3 n13 n23
  have k := tc_say L h1 h2 h3 n12 n13 n23
  have j := tc_say M h1 h2 h3 n12 n13 n23
  rw [e] at k j
  unfold tc_aq
  rcases k with ⟨c, y⟩ | ⟨c, y⟩ | ⟨c, y⟩ | ⟨c, y⟩ <;> rcases j with ⟨c', y'⟩ | ⟨c', y'⟩ | ⟨c', y'⟩ | ⟨c', y'⟩ <;> rw [c, y, c', y'] <;>
    first
    | exact ⟨fun _ => rfl, fun _ => rfl⟩
    | exact ⟨fun q => absurd q (by decide), fun q => absurd q d1⟩
    | exact ⟨fun q => absurd q (by decide), fun q => absurd q d2⟩
    | exact ⟨fun q => absurd q (by decide), fun q => absurd q d3⟩
    | exact ⟨fun q => absurd q (by decide), fun q => absurd q p1⟩
    | exact ⟨fun q => absurd q (by decide), fun q => absurd q p2⟩
    | exact ⟨fun q => absurd q (by decide), fun q => absurd q p3⟩
    | exact ⟨fun q => absurd q (by decide), fun q => absurd q.symm d1⟩
    | exact ⟨fun q => absurd q (by decide), fun q => absurd q.symm d2⟩
    | exact ⟨fun q => absurd q (by decide), fun q => absurd q.symm d3⟩
    | exact ⟨fun q => absurd q (by decide), fun q => absurd q.symm p1⟩
    | exact ⟨fun q => absurd q (by decide), fun q => absurd q.symm p2⟩
    | exact ⟨fun q => absurd q (by decide), fun q => absurd q.symm p3⟩
