-- the reference's walks
theorem tc_y_treeT {post : Int32 → Prop} {v : SY} {t : Nat} (ht : t < 2) (h : post 1) : wpY_tree post v (nI t) := by
  have k : t = 0 ∨ t = 1 := by omega
  rcases k with rfl | rfl
  · exact br_t rfl h
  · exact br_f (by decide) (br_t rfl h)
theorem tc_y_treeF {post : Int32 → Prop} {v : SY} {x : Int32} (h0 : ¬ x = 0) (h1 : ¬ x = 1) (h : post 0) : wpY_tree post v x := br_f h0 (br_f h1 h)
theorem tc_y_memT {post : Int32 → Prop} {v : SY} {g : Nat} (hg : g < 7) (h : post 1) : wpY_member post v (nI g) := br_f (nI_pos (by omega)) (br_f (nI_nlt (a := 6) (b := g) (by omega) (by decide)) h)
theorem tc_y_memF {post : Int32 → Prop} {v : SY} {x : Int32} (hx : x < 0 ∨ (¬ x < 0 ∧ 7 ≤ x)) (h : post 0) : wpY_member post v x := by
  rcases hx with k | ⟨k, l⟩
  · exact br_t k h
  · refine br_f k (br_t ?_ h)
    obtain ⟨j, hj, rfl⟩ := nI_of k
    have l' := (nI_leI (a := 7) (b := j) (by omega) hj).mp l
    exact nI_lt (a := 6) (b := j) (by omega) hj
theorem tc_y_count_l {post : Int32 → Prop} {v : SY} {g : Nat} (hg : g < 128) : ∀ d m c, m + d = 7 → post (nI (c + tc_sf g d m)) → wY_count_4 post (nI g) v (d + 1) (nI c) (nI m) := by
  intro d
  induction d with
  | zero =>
    intro m c hm hp
    have e : m = 7 := by omega
    rw [e]
    exact br_t tc_ge7 hp
  | succ d ih =>
    intro m c hm hp
    refine br_f (tc_lt7 (by omega)) (nm_r (e' := nI (c + g / 2 ^ m % 2)) ?_ (nm_r (nI_1 m) (ih (m + 1) _ (by omega) ?_)))
    · rw [tc_t_bit g hg m (by omega), nI_add]
    · have e : c + tc_sf g (d + 1) m = c + g / 2 ^ m % 2 + tc_sf g d (m + 1) := by
        show c + (g / 2 ^ m % 2 + tc_sf g d (m + 1)) = _
        omega
      rw [← e]; exact hp
theorem tc_y_count {post : Int32 → Prop} {v : SY} {g : Nat} (hg : g < 128) (h : post (nI (tc_sz g))) : wpY_count post v (nI g) :=
  ⟨8, tc_y_count_l hg 7 0 0 rfl (by rw [Nat.zero_add]; exact h)⟩
theorem tc_y_given {post : Int32 → Prop} {v : SY} {g : Nat} (hg : g < 128) (h : post (tc_b (tc_gv g))) : wpY_given post v (nI g) := by
  refine tc_y_count hg (pk_eq (tc_sz g) 1 (fun z => ?_) (fun z => pk_eq g 127 (fun e => ?_) (fun e => ?_)) rfl rfl (tc_sz31 hg))
  · have k : tc_gv g = true := by unfold tc_gv; rw [z]; rfl
    rw [k] at h; exact h
  · rw [e] at h; exact h
  · have k : tc_gv g = false := by unfold tc_gv; rw [beq_eq_false_iff_ne.mpr z, beq_eq_false_iff_ne.mpr e]; rfl
    rw [k] at h; exact h
theorem tc_y_in {t g : Nat} (ht : t < 2) (hg : g < 128) : vp_in ((128 * nI t) + nI g) 256 := by
  rw [tc_ix]
  exact vp_in_nI (by omega) (by decide)
theorem tc_y_cl {t g : Nat} (ht : t < 2) (hg : g < 128) : ((128 * nI t) + nI g).toNatClampNeg = 128 * t + g := by
  rw [tc_ix]
  exact nI_clamp (by omega)
theorem tc_y_clear_l {post : Int32 → SY → Prop} {t : Nat} (ht : t < 2) : ∀ d i v T, i + d = 128 → tc_RY v T → (∀ v', tc_RY v' (tc_rs T t i) → post 1 v') → wY_clear_2 post (nI t) (d + 1) (nI i) v := by
  intro d
  induction d with
  | zero =>
    intro i v T hi hv hp
    have e : i = 128 := by omega
    rw [e] at hp ⊢
    exact br_t tc_ge (tc_y_treeT ht ⟨tc_nar true, hp v (tc_RY_e hv t)⟩)
  | succ d ih =>
    intro i v T hi hv hp
    have hi' : i < 128 := by omega
    refine br_f (tc_lt hi') (tc_y_treeT ht (br_f (by decide) (tc_y_given hi' ⟨tc_y_in ht hi', ?_⟩)))
    rw [tc_y_cl ht hi', tc_vnar]
    refine nm_e (nm_r (nI_1 i) (ih (i + 1) _ (tc_st T t i (tc_gv i)) (by omega) (tc_RY_st hv ht hi' (tc_gv i)) (fun v' h' => hp v' ?_)))
    rw [← tc_rs_s]; exact h'
theorem tc_y_clearT {post : Int32 → SY → Prop} {t : Nat} (ht : t < 2) {v : SY} {T : Nat → Nat → Bool} (hv : tc_RY v T) (hp : ∀ v', tc_RY v' (tc_rs T t 1) → post 1 v') : wpY_clear post v (nI t) :=
  ⟨128, tc_y_clear_l ht 127 1 v T rfl hv hp⟩
theorem tc_y_clearF {post : Int32 → SY → Prop} {v : SY} {x : Int32} (h0 : ¬ x = 0) (h1 : ¬ x = 1) (h : post 0 v) : wpY_clear post v x :=
  ⟨1, br_f (by decide) (tc_y_treeF h0 h1 (br_t rfl (tc_y_treeF h0 h1 ⟨tc_nar false, h⟩)))⟩
theorem tc_t_nz {g h : Nat} (hg : g < 128) (hh : h < 128) : (nI g &&& (nI h ^^^ (-1)) = 0) ↔ g &&& h = g := by
  have k := tc_t_not g hg h hh
  constructor
  · intro z
    rw [decide_eq_true z] at k
    exact beq_iff_eq.mp k.symm
  · intro z
    rw [z, beq_self_eq_true] at k
    exact of_decide_eq_true k
section
variable {post : Int32 → Prop} {v : SY} {T : Nat → Nat → Bool}
theorem tc_nzb {g h : Nat} {A B : Prop} (hg : g < 128) (hh : h < 128) (f : g &&& h = g → A) (k : ¬ g &&& h = g → B) : (nI g &&& (nI h ^^^ (-1)) = 0 → A) ∧ (¬ nI g &&& (nI h ^^^ (-1)) = 0 → B) :=
  br_c (fun z => f ((tc_t_nz hg hh).mp z)) (fun z => k (fun e => z ((tc_t_nz hg hh).mpr e)))
theorem tc_y_cross {j g : Nat} (hj : j < 128) (hg : g < 128) (h : post (tc_b (tc_cr g j))) : wpY_crosses post v (nI j) (nI g) := by
  have hjg : j &&& g < 128 := tc_andlt hj g
  have C : ∀ (_ : j &&& g = 0 ∨ j &&& g = j ∨ j &&& g = g), post 0 := by
    intro o
    cases c : tc_cr j g with
    | false => rw [tc_cr_s, c] at h; exact h
    | true =>
      obtain ⟨c1, c2, c3⟩ := (tc_cr_iff j g).mp c
      rcases o with o | o | o
      · exact absurd o c1
      · exact absurd o c2
      · exact absurd o c3
  refine pk_eq (j &&& g) 0 (fun z => C (Or.inl z)) (fun n1 => tc_nzb hj hg (fun z => C (Or.inr (Or.inl z))) (fun n2 => tc_nzb hg hj (fun z => C (Or.inr (Or.inr ?_))) (fun n3 => ?_))) (nx_and j g)
  · rw [Nat.and_comm]; exact z
  · have c : tc_cr j g = true := (tc_cr_iff j g).mpr ⟨n1, n2, fun e => n3 (by rw [Nat.and_comm]; exact e)⟩
    rw [tc_cr_s, c] at h; exact h
theorem tc_y_get (hv : tc_RY v T) {t g : Nat} (ht : t < 2) (hg : g < 128) {A B : Prop} (f : T t g = false → A) (k : T t g = true → B) : vp_in ((128 * nI t) + nI g) 256 ∧ ((v ((128 * nI t) + nI g).toNatClampNeg = 0 → A) ∧ (¬ v ((128 * nI t) + nI g).toNatClampNeg = 0 → B)) := by
  refine ⟨tc_y_in ht hg, ?_⟩
  rw [tc_y_cl ht hg, hv t ht g hg]
  exact tc_br f k
theorem tc_y_get0 (hv : tc_RY v T) {g : Nat} (hg : g < 128) : v (nI g).toNatClampNeg = tc_b (T 0 g) := by
  have k := hv 0 (by decide) g hg
  rw [Nat.mul_zero, Nat.zero_add] at k
  rw [nI_clamp (by omega), k]
theorem tc_y_get1 (hv : tc_RY v T) {g : Nat} (hg : g < 128) : v ((128 : Int32) + nI g).toNatClampNeg = tc_b (T 1 g) := by
  have k := hv 1 (by decide) g hg
  rw [Nat.mul_one] at k
  rw [tc_ix1, nI_clamp (by omega), k]
theorem tc_y_in1 {g : Nat} (hg : g < 128) : vp_in ((128 : Int32) + nI g) 256 := by
  rw [tc_ix1]
  exact vp_in_nI (by omega) (by decide)
theorem tc_y_fits_l (hv : tc_RY v T) {t g : Nat} (ht : t < 2) (hg : g < 128) : ∀ d j f, j + d = 128 → post (tc_b (f && tc_al (fun j => !(tc_cr g j && T t j)) d j)) → wY_fits_5 post (nI t) (nI g) v (d + 1) (tc_b f) (nI j) := by
  intro d
  induction d with
  | zero =>
    intro j f hj hp
    have e : j = 128 := by omega
    rw [e]
    refine br_t tc_ge ⟨tc_nar f, ?_⟩
    have hp' : post (tc_b (f && true)) := hp
    rw [Bool.and_true] at hp'
    exact hp'
  | succ d ih =>
    intro j f hj hp
    have hj' : j < 128 := by omega
    have hp' : post (tc_b (f && (!(tc_cr g j && T t j) && tc_al (fun j => !(tc_cr g j && T t j)) d (j + 1)))) := hp
    refine br_f (tc_lt hj') (tc_br (fun z => nm_r (nI_1 j) (ih (j + 1) false (by omega) ?_)) (fun z => tc_y_get hv ht hj' (fun q => nm_r (nI_1 j) (ih (j + 1) true (by omega) ?_)) (fun q => tc_y_cross hj' hg (tc_br (fun w => nm_r (nI_1 j) (ih (j + 1) true (by omega) ?_)) (fun w => nm_r (nI_1 j) (ih (j + 1) false (by omega) ?_))))))
    · rw [z] at hp'; exact hp'
    · rw [z, q, Bool.and_false] at hp'; exact hp'
    · rw [z, w] at hp'; exact hp'
    · rw [w, q, Bool.and_true, Bool.not_true, Bool.false_and, Bool.and_false] at hp'; exact hp'
theorem tc_y_fits (hv : tc_RY v T) {t g : Nat} (ht : t < 2) (hg : g < 128) (h : post (tc_b (tc_ft (T t) g))) : wpY_fits post v (nI t) (nI g) :=
  ⟨128, tc_y_fits_l hv ht hg 127 1 true rfl (by rw [Bool.true_and]; exact h)⟩
theorem tc_y_groups (hv : tc_RY v T) {t : Nat} (ht : t < 2) (h : post (nI (0 + tc_cn (T t) 127 1))) : wpY_groups post v (nI t) :=
  ⟨128, tc_cnt (wY_groups_4 post (nI t) v) post (T t) (fun n c z => br_t tc_ge (tc_y_treeT ht (br_f (by decide) z)))
    (fun n i c hi hf hs => br_f (tc_lt hi) (tc_y_treeT ht (br_f (by decide) (tc_y_get hv ht hi (fun z => nm_r (nI_1 i) (hf z)) (fun z => nm_r (nI_1 c) (nm_r (nI_1 i) (hs z))))))) 127 1 0 rfl h⟩
theorem tc_y_groupsF {x : Int32} (h0 : ¬ x = 0) (h1 : ¬ x = 1) (h : post (-1)) : wpY_groups post v x :=
  ⟨1, br_f (by decide) (tc_y_treeF h0 h1 (br_t rfl (tc_y_treeF h0 h1 (br_t rfl h))))⟩
theorem tc_y_join_l (hv : tc_RY v T) {t s : Nat} (ht : t < 2) (hs : s < 128) (s0 : 0 < s) : ∀ d i b, i + d = 128 → b < 128 → post (nI (tc_jf (T t) s d i b)) → wY_join_26 post (nI t) (nI s) v (d + 1) (nI b) (nI i) := by
  intro d
  induction d with
  | zero =>
    intro i b hi hb hp
    have e : i = 128 := by omega
    rw [e]
    exact br_t tc_ge (br_f (nI_ne0 s0 (by omega)) hp)
  | succ d ih =>
    intro i b hi hb hp
    have hi' : i < 128 := by omega
    have hp' : post (nI (tc_jf (T t) s d (i + 1) (cond ((T t i && i &&& s == s) && decide (tc_sz i < tc_sz b)) i b))) := hp
    refine br_f (tc_lt hi') (tc_y_get hv ht hi' (fun z => nm_r (nI_1 i) (ih (i + 1) b (by omega) hb ?_)) (fun z => tc_nzb hs hi' (fun q => tc_y_count hi' (tc_y_count hb (pk_le (tc_sz b) (tc_sz i) (fun w => nm_r (nI_1 i) (ih (i + 1) b (by omega) hb ?_)) (fun w => nm_r (nI_1 i) (ih (i + 1) i (by omega) hi' ?_)) rfl rfl (tc_sz31 hb) (tc_sz31 hi')))) (fun q => nm_r (nI_1 i) (ih (i + 1) b (by omega) hb ?_))))
    · rw [z] at hp'; exact hp'
    · rw [decide_eq_false (by omega), Bool.and_false] at hp'; exact hp'
    · have q' : i &&& s = s := by rw [Nat.and_comm]; exact q
      rw [z, q', beq_self_eq_true, decide_eq_true w] at hp'; exact hp'
    · have q' : ¬ i &&& s = s := by rw [Nat.and_comm]; exact q
      rw [beq_eq_false_iff_ne.mpr q', Bool.and_false] at hp'; exact hp'
theorem tc_y_join (hv : tc_RY v T) {t s : Nat} (ht : t < 2) (hs : s < 128) (s0 : 0 < s) (h : post (nI (tc_jf (T t) s 127 1 127))) : ∃ n, wY_join_26 post (nI t) (nI s) v n 127 1 :=
  ⟨128, tc_y_join_l hv ht hs s0 127 1 127 rfl (by decide) h⟩
theorem tc_y_join0_l (hv : tc_RY v T) {t : Nat} (ht : t < 2) (h : post 0) : ∀ d i b, i + d = 128 → b < 128 → wY_join_26 post (nI t) (nI 0) v (d + 1) (nI b) (nI i) := by
  intro d
  induction d with
  | zero =>
    intro i b hi hb
    have e : i = 128 := by omega
    rw [e]
    exact br_t tc_ge (br_t rfl h)
  | succ d ih =>
    intro i b hi hb
    have hi' : i < 128 := by omega
    exact br_f (tc_lt hi') (tc_y_get hv ht hi' (fun z => nm_r (nI_1 i) (ih (i + 1) b (by omega) hb)) (fun z => tc_nzb (by decide) hi' (fun q => tc_y_count hi' (tc_y_count hb (br_c (fun w => nm_r (nI_1 i) (ih (i + 1) b (by omega) hb)) (fun w => nm_r (nI_1 i) (ih (i + 1) i (by omega) hi'))))) (fun q => nm_r (nI_1 i) (ih (i + 1) b (by omega) hb))))
theorem tc_y_join0 (hv : tc_RY v T) {t : Nat} (ht : t < 2) (h : post 0) : ∃ n, wY_join_26 post (nI t) (nI 0) v n 127 1 :=
  ⟨128, tc_y_join0_l hv ht h 127 1 127 rfl (by decide)⟩
theorem tc_y_cl_l (hv : tc_RY v T) {t a b c : Nat} (ht : t < 2) (ha : a < 7) (hb : b < 7) (hc : c < 7) : ∀ d j f, j + d = 128 → post (tc_b (f || tc_ex (fun g => T t g && tc_cq a b c g) d j)) → wY_closer_6 post (nI t) (nI a) (nI b) (nI c) v (d + 1) (tc_b f) (nI j) := by
  intro d
  induction d with
  | zero =>
    intro j f hj hp
    have e : j = 128 := by omega
    rw [e]
    refine br_t tc_ge ⟨tc_nar f, ?_⟩
    have hp' : post (tc_b (f || false)) := hp
    rw [Bool.or_false] at hp'
    exact hp'
  | succ d ih =>
    intro j f hj hp
    have hj' : j < 128 := by omega
    have hp' : post (tc_b (f || ((T t j && (j / 2 ^ a % 2 == 1 && (j / 2 ^ b % 2 == 1 && j / 2 ^ c % 2 == 0))) || tc_ex (fun g => T t g && tc_cq a b c g) d (j + 1)))) := hp
    refine br_f (tc_lt hj') (tc_br (fun z => tc_y_get hv ht hj' (fun q => nm_r (nI_1 j) (ih (j + 1) false (by omega) ?_)) (fun q => pk_eq (j / 2 ^ a % 2) 1 (fun w => pk_eq (j / 2 ^ b % 2) 1 (fun x => pk_eq (j / 2 ^ c % 2) 0 (fun y => nm_r (nI_1 j) (ih (j + 1) true (by omega) ?_)) (fun y => nm_r (nI_1 j) (ih (j + 1) false (by omega) ?_)) (tc_t_bit j hj' c hc) rfl (by omega)) (fun x => nm_r (nI_1 j) (ih (j + 1) false (by omega) ?_)) (tc_t_bit j hj' b hb) rfl (by omega)) (fun w => nm_r (nI_1 j) (ih (j + 1) false (by omega) ?_)) (tc_t_bit j hj' a ha) rfl (by omega))) (fun z => nm_r (nI_1 j) (ih (j + 1) true (by omega) ?_)))
    · rw [z, q] at hp'; exact hp'
    · rw [q, w, x, y, z] at hp'; exact hp'
    · rw [z, beq_eq_false_iff_ne.mpr y, Bool.and_false, Bool.and_false, Bool.and_false] at hp'; exact hp'
    · rw [z, beq_eq_false_iff_ne.mpr x, Bool.false_and, Bool.and_false, Bool.and_false] at hp'; exact hp'
    · rw [z, beq_eq_false_iff_ne.mpr w, Bool.false_and, Bool.and_false] at hp'; exact hp'
    · rw [z, Bool.true_or] at hp'; exact hp'
theorem tc_y_closer (hv : tc_RY v T) {t a b c : Nat} (ht : t < 2) (ha : a < 7) (hb : b < 7) (hc : c < 7) (h : post (tc_b (tc_cl (T t) a b c))) : wpY_closer post v (nI t) (nI a) (nI b) (nI c) :=
  ⟨128, tc_y_cl_l hv ht ha hb hc 127 1 false rfl (by rw [Bool.false_or]; exact h)⟩
theorem tc_nn {a b : Nat} (ha : a < 7) (hb : b < 7) (h : ¬ a = b) : ¬ nI a = nI b := fun z => h ((nI_eq (by omega) (by omega)).mp z)
theorem tc_y_says (hv : tc_RY v T) {t a b c : Nat} (ht : t < 2) (ha : a < 7) (hb : b < 7) (hc : c < 7) (ab : ¬ a = b) (ac : ¬ a = c) (bc : ¬ b = c) (h : post (nI (tc_sy (T t) a b c))) : wpY_says post v (nI t) (nI a) (nI b) (nI c) := by
  have h' : post (nI (cond (tc_cl (T t) b c a) 0 (cond (tc_cl (T t) a c b) 1 (cond (tc_cl (T t) a b c) 2 3)))) := h
  refine tc_y_treeT ht (br_f (by decide) (tc_y_memT ha (br_f (by decide) (tc_y_memT hb (br_f (by decide) (tc_y_memT hc (br_f (by decide) (br_f (tc_nn ha hb ab) (br_f (tc_nn ha hc ac) (br_f (tc_nn hb hc bc) ?_))))))))))
  refine tc_y_closer hv ht hb hc ha (tc_br (fun z => tc_y_closer hv ht ha hc hb (tc_br (fun q => tc_y_closer hv ht ha hb hc (tc_br (fun w => ?_) (fun w => ?_))) (fun q => ?_))) (fun z => ?_))
  · rw [z, q, w] at h'; exact h'
  · rw [z, q, w] at h'; exact h'
  · rw [z, q] at h'; exact h'
  · rw [z] at h'; exact h'
theorem tc_y_about_l {t s : Nat} (hs : s < 128) : ∀ d m a b c, m + d = 7 → wpY_says (fun r => post r) v (nI t) (tc_ab s d m a b c).1 (tc_ab s d m a b c).2.1 (tc_ab s d m a b c).2.2 → wY_about_11 post (nI t) (nI s) v (d + 1) a b c (nI m) := by
  intro d
  induction d with
  | zero =>
    intro m a b c hm hp
    have e : m = 7 := by omega
    rw [e]
    exact br_t tc_ge7 hp
  | succ d ih =>
    intro m a b c hm hp
    have e : tc_ab s (d + 1) m a b c = cond (s / 2 ^ m % 2 == 1) (tc_ab s d (m + 1) b c (nI m)) (tc_ab s d (m + 1) a b c) := rfl
    rw [e] at hp
    refine br_f (tc_lt7 (by omega)) (pk_eq (s / 2 ^ m % 2) 1 (fun z => nm_r (nI_1 m) (ih (m + 1) b c (nI m) (by omega) ?_)) (fun z => nm_r (nI_1 m) (ih (m + 1) a b c (by omega) ?_)) (tc_t_bit s hs m (by omega)) rfl (by omega))
    · rw [z] at hp; exact hp
    · rw [beq_eq_false_iff_ne.mpr z] at hp; exact hp
theorem tc_y_about (hv : tc_RY v T) {t s : Nat} (ht : t < 2) (hs : s < 128) (z : tc_sz s = 3) (h : post (nI (tc_aq (T t) s))) : wpY_about post v (nI t) (nI s) := by
  refine ⟨8, tc_y_about_l hs 7 0 (-1) (-1) (-1) rfl ?_⟩
  show wpY_says (fun r => post r) v (nI t) (tc_a3 s).1 (tc_a3 s).2.1 (tc_a3 s).2.2
  obtain ⟨e1, e2, e3⟩ := tc_t_a3 s hs z
  obtain ⟨h1, h2, h3, n12, n13, n23, _⟩ := tc_t_m s hs z
  rw [e1, e2, e3]
  exact tc_y_says hv ht h1 h2 h3 n12 n13 n23 h
theorem tc_aq31 (P : Nat → Bool) (s : Nat) : tc_aq P s < 2 ^ 31 := Nat.lt_of_le_of_lt (tc_sy_le P _ _ _) (by decide)
theorem tc_y_decided (hv : tc_RY v T) {t : Nat} (ht : t < 2) (L : tc_lam (T t)) (h : post (nI (0 + tc_cn (fun s => tc_sz s == 3 && !(tc_cp (T t) s == 0)) 128 0))) : wpY_decided post v (nI t) := by
  refine ⟨129, tc_cnt (wY_decided_4 post (nI t) v) post (fun s => tc_sz s == 3 && !(tc_cp (T t) s == 0)) (fun n c z => br_t tc_ge (tc_y_treeT ht (br_f (by decide) z))) (fun n i c hi hf hs => ?_) 128 0 0 rfl h⟩
  refine br_f (tc_lt hi) (tc_y_treeT ht (br_f (by decide) (tc_y_count hi (pk_eq (tc_sz i) 3 (fun z => tc_y_about hv ht hi z (pk_eq (tc_aq (T t) i) 3 (fun q => nm_r (nI_1 i) (hf ?_)) (fun q => nm_r (nI_1 c) (nm_r (nI_1 i) (hs ?_))) rfl rfl (tc_aq31 _ _))) (fun z => nm_r (nI_1 i) (hf ?_)) rfl rfl (tc_sz31 hi)))))
  · rw [z, (tc_aq_cp L hi z).mp q]; rfl
  · rw [z, beq_eq_false_iff_ne.mpr (fun e => q ((tc_aq_cp L hi z).mpr e))]; rfl
  · rw [beq_eq_false_iff_ne.mpr z]; rfl
theorem tc_y_decidedF {x : Int32} (h0 : ¬ x = 0) (h1 : ¬ x = 1) (h : post (-1)) : wpY_decided post v x :=
  ⟨1, br_f (by decide) (tc_y_treeF h0 h1 (br_t rfl (tc_y_treeF h0 h1 (br_t rfl h))))⟩
theorem tc_y_gd (hv : tc_RY v T) (h : post (nI (0 + tc_cn (fun g => !(T 0 g == T 1 g)) 127 1))) : wpY_groupDistance post v := by
  refine ⟨128, tc_cnt (wY_groupDistance_4 post v) post (fun g => !(T 0 g == T 1 g)) (fun n c z => br_t tc_ge z) (fun n i c hi hf hs => ?_) 127 1 0 rfl h⟩
  refine br_f (tc_lt hi) ⟨vp_in_nI (by omega) (by decide), tc_y_in1 hi, ?_⟩
  rw [tc_y_get0 hv hi, tc_y_get1 hv hi]
  refine tc_bb (fun z => nm_r (nI_1 i) (hf ?_)) (fun z => nm_r (nI_1 c) (nm_r (nI_1 i) (hs ?_)))
  · rw [z, beq_self_eq_true]; rfl
  · rw [beq_eq_false_iff_ne.mpr z]; rfl
theorem tc_y_td (hv : tc_RY v T) (L0 : tc_lam (T 0)) (L1 : tc_lam (T 1)) (h : post (nI (0 + tc_cn (fun s => tc_sz s == 3 && !(tc_cp (T 0) s == tc_cp (T 1) s)) 128 0))) : wpY_tripleDistance post v := by
  refine ⟨129, tc_cnt (wY_tripleDistance_4 post v) post (fun s => tc_sz s == 3 && !(tc_cp (T 0) s == tc_cp (T 1) s)) (fun n c z => br_t tc_ge z) (fun n i c hi hf hs => ?_) 128 0 0 rfl h⟩
  refine br_f (tc_lt hi) (tc_y_count hi (pk_eq (tc_sz i) 3 (fun z => tc_y_about (t := 0) hv (by decide) hi z (tc_y_about (t := 1) hv (by decide) hi z (pk_eq (tc_aq (T 0) i) (tc_aq (T 1) i) (fun q => nm_r (nI_1 i) (hf ?_)) (fun q => nm_r (nI_1 c) (nm_r (nI_1 i) (hs ?_))) rfl rfl (tc_aq31 _ _) (tc_aq31 _ _)))) (fun z => nm_r (nI_1 i) (hf ?_)) rfl rfl (tc_sz31 hi)))
  · rw [(tc_aq_eq L0 L1 hi z).mp q, beq_self_eq_true, Bool.not_true, Bool.and_false]
  · rw [z, beq_eq_false_iff_ne.mpr (fun e => q ((tc_aq_eq L0 L1 hi z).mpr e))]; rfl
  · rw [beq_eq_false_iff_ne.mpr z]; rfl
theorem tc_y_agree_l (hv : tc_RY v T) (L0 : tc_lam (T 0)) (L1 : tc_lam (T 1)) {s : Nat} (hs : s < 128) : ∀ d j f, j + d = 128 → post (tc_b (f && tc_al (fun j => !tc_dq T s j) d j)) → wY_agree_18 post (nI s) v (d + 1) (tc_b f) (nI j) := by
  intro d
  induction d with
  | zero =>
    intro j f hj hp
    have e : j = 128 := by omega
    rw [e]
    refine br_t tc_ge ⟨tc_nar f, ?_⟩
    have hp' : post (tc_b (f && true)) := hp
    rw [Bool.and_true] at hp'
    exact hp'
  | succ d ih =>
    intro j f hj hp
    have hj' : j < 128 := by omega
    have hp' : post (tc_b (f && (!(tc_dq T s j) && tc_al (fun j => !tc_dq T s j) d (j + 1)))) := hp
    refine br_f (tc_lt hj') (tc_br (fun z => ⟨tc_nar f, ?_⟩) (fun z => tc_nzb hj' hs (fun q => tc_y_count hj' (pk_eq (tc_sz j) 3 (fun w => tc_y_about (t := 0) hv (by decide) hj' w (tc_y_about (t := 1) hv (by decide) hj' w (pk_eq (tc_aq (T 0) j) (tc_aq (T 1) j) (fun x => nm_r (nI_1 j) (ih (j + 1) true (by omega) ?_)) (fun x => nm_r (nI_1 j) (ih (j + 1) false (by omega) ?_)) rfl rfl (tc_aq31 _ _) (tc_aq31 _ _)))) (fun w => nm_r (nI_1 j) (ih (j + 1) true (by omega) ?_)) rfl rfl (tc_sz31 hj'))) (fun q => nm_r (nI_1 j) (ih (j + 1) true (by omega) ?_))))
    · rw [z] at hp' ⊢; exact hp'
    · have k : tc_dq T s j = false := by unfold tc_dq; rw [(tc_aq_eq L0 L1 hj' w).mp x, beq_self_eq_true, Bool.not_true, Bool.and_false, Bool.and_false]
      rw [z, k] at hp'; exact hp'
    · have k : tc_dq T s j = true := by unfold tc_dq; rw [q, w, beq_self_eq_true, beq_eq_false_iff_ne.mpr (fun e => x ((tc_aq_eq L0 L1 hj' w).mpr e))]; rfl
      rw [z, k] at hp'; exact hp'
    · have k : tc_dq T s j = false := by unfold tc_dq; rw [beq_eq_false_iff_ne.mpr w, Bool.false_and, Bool.and_false]
      rw [z, k] at hp'; exact hp'
    · have k : tc_dq T s j = false := by unfold tc_dq; rw [beq_eq_false_iff_ne.mpr q, Bool.false_and]
      rw [z, k] at hp'; exact hp'
theorem tc_lt127 {s : Nat} (hs : s < 128) : ¬ (127 : Int32) < nI s := nI_nlt (a := 127) (b := s) (by omega) (by decide)
theorem tc_gt127 {x : Int32} (h0 : ¬ x < 0) (h : 128 ≤ x) : (127 : Int32) < x := by
  obtain ⟨j, hj, rfl⟩ := nI_of h0
  have l := (nI_leI (a := 128) (b := j) (by decide) hj).mp h
  exact nI_lt (a := 127) (b := j) (by omega) hj
theorem tc_y_agree (hv : tc_RY v T) (L0 : tc_lam (T 0)) (L1 : tc_lam (T 1)) {s : Nat} (hs : s < 128) (h : post (tc_b (tc_ag T s))) : wpY_agree post v (nI s) :=
  br_f (nI_pos (by omega)) (br_f (tc_lt127 hs) ⟨129, tc_y_agree_l hv L0 L1 hs 128 0 true rfl (by rw [Bool.true_and]; exact h)⟩)
theorem tc_y_agreeF {x : Int32} (hx : x < 0 ∨ (¬ x < 0 ∧ 128 ≤ x)) (h : post 0) : wpY_agree post v x := by
  have k : wY_agree_18 post x v 1 0 0 := br_f (by decide) (br_t rfl ⟨tc_nar false, h⟩)
  rcases hx with z | ⟨z, w⟩
  · exact br_t z ⟨1, k⟩
  · exact br_f z (br_t (tc_gt127 z w) ⟨1, k⟩)
theorem tc_y_agm_l (hv : tc_RY v T) (L0 : tc_lam (T 0)) (L1 : tc_lam (T 1)) : ∀ d i b, i + d = 128 → b < 128 → post (nI (tc_sz (tc_bs (tc_ag T) d i b))) → wY_agreement_4 post v (d + 1) (nI (tc_sz b)) (nI i) := by
  intro d
  induction d with
  | zero =>
    intro i b hi hb hp
    have e : i = 128 := by omega
    rw [e]
    exact br_t tc_ge hp
  | succ d ih =>
    intro i b hi hb hp
    have hi' : i < 128 := by omega
    have hp' : post (nI (tc_sz (tc_bs (tc_ag T) d (i + 1) (cond (decide (tc_sz b < tc_sz i) && tc_ag T i) i b)))) := hp
    refine br_f (tc_lt hi') (tc_y_count hi' (pk_le (tc_sz i) (tc_sz b) (fun z => nm_r (nI_1 i) (ih (i + 1) b (by omega) hb ?_)) (fun z => tc_y_agree hv L0 L1 hi' (tc_br (fun q => nm_r (nI_1 i) (ih (i + 1) b (by omega) hb ?_)) (fun q => nm_r (nI_1 i) (ih (i + 1) i (by omega) hi' ?_)))) rfl rfl (tc_sz31 hi') (tc_sz31 hb)))
    · rw [decide_eq_false (by omega)] at hp'; exact hp'
    · rw [q, Bool.and_false] at hp'; exact hp'
    · rw [q, decide_eq_true z] at hp'; exact hp'
theorem tc_bs1 (A : Nat → Bool) (d i b : Nat) : tc_bs A (d + 1) i b = tc_bs A d (i + 1) (cond (decide (tc_sz b < tc_sz i) && A i) i b) := rfl
theorem tc_bs2 (c : Bool) (i : Nat) : cond c i i = i := by cases c <;> rfl
theorem tc_bs0 (A : Nat → Bool) : tc_bs A 128 0 0 = tc_bs A 127 1 0 := by
  have e := tc_bs1 A 127 0 0
  rw [tc_bs2] at e
  exact e
theorem tc_y_agm (hv : tc_RY v T) (L0 : tc_lam (T 0)) (L1 : tc_lam (T 1)) (h : post (nI (tc_sz (tc_bs (tc_ag T) 127 1 0)))) : wpY_agreement post v :=
  ⟨129, tc_y_agm_l hv L0 L1 128 0 0 rfl (by decide) (by rw [tc_bs0]; exact h)⟩
theorem tc_y_ags_l (hv : tc_RY v T) (L0 : tc_lam (T 0)) (L1 : tc_lam (T 1)) {k : Nat} (hk : k < 2 ^ 31) : ∀ d j, j + d = 128 → post (nI (tc_fi (fun j => tc_sz j == k && tc_ag T j) (fun j => j) 0 d j)) → wY_agreeingSet_7 post (nI k) v (d + 1) (nI j) := by
  intro d
  induction d with
  | zero =>
    intro j hj hp
    have e : j = 128 := by omega
    rw [e]
    exact br_t tc_ge hp
  | succ d ih =>
    intro j hj hp
    have hj' : j < 128 := by omega
    have hp' : post (nI (cond (tc_sz j == k && tc_ag T j) j (tc_fi (fun j => tc_sz j == k && tc_ag T j) (fun j => j) 0 d (j + 1)))) := hp
    refine br_f (tc_lt hj') (tc_y_count hj' (pk_eq (tc_sz j) k (fun z => tc_y_agree hv L0 L1 hj' (tc_br (fun q => nm_r (nI_1 j) (ih (j + 1) (by omega) ?_)) (fun q => ?_))) (fun z => nm_r (nI_1 j) (ih (j + 1) (by omega) ?_)) rfl rfl (tc_sz31 hj') hk))
    · rw [q, Bool.and_false] at hp'; exact hp'
    · rw [q, z, beq_self_eq_true] at hp'; exact hp'
    · rw [beq_eq_false_iff_ne.mpr z] at hp'; exact hp'
theorem tc_y_ags (hv : tc_RY v T) (L0 : tc_lam (T 0)) (L1 : tc_lam (T 1)) (h : post (nI (tc_bs (tc_ag T) 127 1 0))) : wpY_agreeingSet post v := by
  refine tc_y_agm hv L0 L1 ⟨129, tc_y_ags_l hv L0 L1 (tc_sz31 (tc_bs_lt _ 127 1 0 (by decide) (by decide))) 128 0 rfl ?_⟩
  rw [tc_bs_fi (tc_ag0 T)]
  exact h
theorem tc_y_tog_l (hv : tc_RY v T) : ∀ d j f, j + d = 128 → post (tc_b (f && tc_al (fun g => !T 1 g || tc_ft (T 0) g) d j)) → wY_together_4 post v (d + 1) (tc_b f) (nI j) := by
  intro d
  induction d with
  | zero =>
    intro j f hj hp
    have e : j = 128 := by omega
    rw [e]
    refine br_t tc_ge ⟨tc_nar f, ?_⟩
    have hp' : post (tc_b (f && true)) := hp
    rw [Bool.and_true] at hp'
    exact hp'
  | succ d ih =>
    intro j f hj hp
    have hj' : j < 128 := by omega
    have hp' : post (tc_b (f && ((!T 1 j || tc_ft (T 0) j) && tc_al (fun g => !T 1 g || tc_ft (T 0) g) d (j + 1)))) := hp
    refine br_f (tc_lt hj') (tc_br (fun z => nm_r (nI_1 j) (ih (j + 1) false (by omega) ?_)) (fun z => ⟨tc_y_in1 hj', ?_⟩))
    · rw [z] at hp'; exact hp'
    · rw [tc_y_get1 hv hj']
      refine tc_br (fun q => nm_r (nI_1 j) (ih (j + 1) true (by omega) ?_)) (fun q => tc_y_fits (t := 0) hv (by decide) hj' (tc_br (fun w => nm_r (nI_1 j) (ih (j + 1) false (by omega) ?_)) (fun w => nm_r (nI_1 j) (ih (j + 1) true (by omega) ?_))))
      · rw [z, q] at hp'; exact hp'
      · rw [z, q, w] at hp'; exact hp'
      · rw [z, w, Bool.or_true] at hp'; exact hp'
theorem tc_y_tog (hv : tc_RY v T) (h : post (tc_b (tc_al (fun g => !T 1 g || tc_ft (T 0) g) 127 1))) : wpY_together post v := ⟨128, tc_y_tog_l hv 127 1 true rfl (by rw [Bool.true_and]; exact h)⟩
theorem tc_y_common (hv : tc_RY v T) (h : post (nI (0 + tc_cn (fun g => T 0 g && T 1 g) 127 1))) : wpY_common post v := by
  refine ⟨128, tc_cnt (wY_common_4 post v) post (fun g => T 0 g && T 1 g) (fun n c z => br_t tc_ge z) (fun n i c hi hf hs => ?_) 127 1 0 rfl h⟩
  refine br_f (tc_lt hi) ⟨vp_in_nI (by omega) (by decide), ?_⟩
  rw [tc_y_get0 hv hi, tc_y_get1 hv hi]
  refine tc_br (fun z => nm_r (nI_1 i) (hf ?_)) (fun z => ⟨tc_y_in1 hi, tc_br (fun q => nm_r (nI_1 i) (hf ?_)) (fun q => nm_r (nI_1 c) (nm_r (nI_1 i) (hs ?_)))⟩)
  · rw [z]; rfl
  · rw [q, Bool.and_false]
  · rw [z, q]; rfl
theorem tc_y_depth (hv : tc_RY v T) {t m : Nat} (ht : t < 2) (hm : m < 7) (h : post (nI (0 + tc_cn (fun g => T t g && g / 2 ^ m % 2 == 1) 127 1))) : wpY_depth post v (nI t) (nI m) := by
  refine ⟨128, tc_cnt (wY_depth_5 post (nI t) (nI m) v) post (fun g => T t g && g / 2 ^ m % 2 == 1) (fun n c z => br_t tc_ge (tc_y_treeT ht (br_f (by decide) (tc_y_memT hm (br_f (by decide) z))))) (fun n i c hi hf hs => ?_) 127 1 0 rfl h⟩
  refine br_f (tc_lt hi) (tc_y_treeT ht (br_f (by decide) (tc_y_memT hm (br_f (by decide) (tc_y_get hv ht hi (fun z => nm_r (nI_1 i) (hf ?_)) (fun z => pk_eq (i / 2 ^ m % 2) 1 (fun q => nm_r (nI_1 c) (nm_r (nI_1 i) (hs ?_))) (fun q => nm_r (nI_1 i) (hf ?_)) (tc_t_bit i hi m hm) rfl (by omega)))))))
  · rw [z]; rfl
  · rw [z, q]; rfl
  · rw [beq_eq_false_iff_ne.mpr q, Bool.and_false]
theorem tc_y_depthF1 {x y : Int32} (h0 : ¬ x = 0) (h1 : ¬ x = 1) (h : post (-1)) : wpY_depth post v x y :=
  ⟨1, br_f (by decide) (tc_y_treeF h0 h1 (br_t rfl (tc_y_treeF h0 h1 (br_t rfl h))))⟩
theorem tc_y_depthF2 {t : Nat} {y : Int32} (ht : t < 2) (hy : y < 0 ∨ (¬ y < 0 ∧ 7 ≤ y)) (h : post (-1)) : wpY_depth post v (nI t) y :=
  ⟨1, br_f (by decide) (tc_y_treeT ht (br_f (by decide) (tc_y_memF hy (br_t rfl (tc_y_treeT ht (br_f (by decide) (tc_y_memF hy (br_t rfl h))))))))⟩
theorem tc_y_room (hv : tc_RY v T) {t : Nat} (ht : t < 2) (h : post (nI (0 + tc_cn (fun g => !T t g && tc_ft (T t) g) 127 1))) : wpY_room post v (nI t) := by
  refine ⟨128, tc_cnt (wY_room_4 post (nI t) v) post (fun g => !T t g && tc_ft (T t) g) (fun n c z => br_t tc_ge (tc_y_treeT ht (br_f (by decide) z))) (fun n i c hi hf hs => ?_) 127 1 0 rfl h⟩
  refine br_f (tc_lt hi) (tc_y_treeT ht (br_f (by decide) (tc_y_get hv ht hi (fun z => tc_y_fits hv ht hi (tc_br (fun q => nm_r (nI_1 i) (hf ?_)) (fun q => nm_r (nI_1 c) (nm_r (nI_1 i) (hs ?_))))) (fun z => nm_r (nI_1 i) (hf ?_)))))
  · rw [q, Bool.and_false]
  · rw [z, q]; rfl
  · rw [z]; rfl
theorem tc_y_roomF {x : Int32} (h0 : ¬ x = 0) (h1 : ¬ x = 1) (h : post (-1)) : wpY_room post v x :=
  ⟨1, br_f (by decide) (tc_y_treeF h0 h1 (br_t rfl (tc_y_treeF h0 h1 (br_t rfl h))))⟩
end
