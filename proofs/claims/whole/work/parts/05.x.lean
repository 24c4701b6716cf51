-- the class's own walks
theorem tc_x_size_l {post : Int32 → Prop} {g : Nat} (hg : g < 128) : ∀ d m c, m + d = 7 → post (nI (c + tc_sf g d m)) → wX_size_4 post (nI g) (d + 1) (nI c) (nI m) := by
  intro d
  induction d with
  | zero =>
    intro m c hm hp
    have e : m = 7 := by omega
    rw [e]
    exact br_t tc_ge7 hp
  | succ d ih =>
    intro m c hm hp
    refine br_f (tc_lt7 (by omega)) (nm_r (e' := nI (c + g / 2 ^ m % 2)) ?_ (nm_r (nI_1 m) (ih (m + 1) _ (by omega) ?_)))
    · rw [tc_t_bit g hg m (by omega), nI_add]
    · have e : c + tc_sf g (d + 1) m = c + g / 2 ^ m % 2 + tc_sf g d (m + 1) := by
        show c + (g / 2 ^ m % 2 + tc_sf g d (m + 1)) = _
        omega
      rw [← e]; exact hp
theorem tc_x_size {post : Int32 → Prop} {g : Nat} (hg : g < 128) (h : post (nI (tc_sz g))) : wpX_size post (nI g) :=
  ⟨8, tc_x_size_l hg 7 0 0 rfl (by rw [Nat.zero_add]; exact h)⟩
theorem tc_sz31 {g : Nat} (hg : g < 128) : tc_sz g < 2 ^ 31 := Nat.lt_of_le_of_lt (tc_t_sz g hg) (by decide)
theorem tc_x_every {post : Int32 → Prop} {g : Nat} (hg : g < 128) (h : post (tc_b (tc_gv g))) : wpX_isInEveryTree post (nI g) := by
  refine pk_eq g 127 (fun e => ?_) (fun e => tc_x_size hg (pk_eq (tc_sz g) 1 (fun z => ?_) (fun z => ?_) rfl rfl (tc_sz31 hg)))
  · rw [e] at h; exact h
  · have k : tc_gv g = true := by unfold tc_gv; rw [z]; rfl
    rw [k] at h; exact h
  · have k : tc_gv g = false := by unfold tc_gv; rw [beq_eq_false_iff_ne.mpr z, beq_eq_false_iff_ne.mpr e]; rfl
    rw [k] at h; exact h
theorem tc_x_reset_l {post : SX → Prop} {t : Nat} (ht : t < 2) : ∀ d i u T, i + d = 128 → tc_RX u T → (∀ u', tc_RX u' (tc_rs T t i) → post u') → wX_reset_2 post (nI t) (d + 1) (nI i) u := by
  intro d
  induction d with
  | zero =>
    intro i u T hi hu hp
    have e : i = 128 := by omega
    rw [e] at hp ⊢
    exact br_t tc_ge (hp u (tc_RX_e hu t))
  | succ d ih =>
    intro i u T hi hu hp
    have hi' : i < 128 := by omega
    have hin : vp_in (nI i) 128 := vp_in_nI hi' (by decide)
    have hcl : (nI i).toNatClampNeg = i := nI_clamp (by omega)
    refine br_f (tc_lt hi') (tc_x_every hi' (tc_br (fun z => ⟨hin, hin, ?_⟩) (fun z => ⟨hin, hin, ?_⟩)))
    · rw [hcl]
      refine nm_e (nm_r (nI_1 i) (ih (i + 1) _ (tc_st T t i false) (by omega) (tc_RX_an hu ht hi') (fun u' h' => hp u' ?_)))
      rw [← tc_rs_s, z]; exact h'
    · rw [hcl]
      refine nm_e (nm_r (nI_1 i) (ih (i + 1) _ (tc_st T t i true) (by omega) (tc_RX_or hu ht hi') (fun u' h' => hp u' ?_)))
      rw [← tc_rs_s, z]; exact h'
theorem tc_x_reset {post : SX → Prop} {t : Nat} (ht : t < 2) {u : SX} {T : Nat → Nat → Bool} (hu : tc_RX u T) (hp : ∀ u', tc_RX u' (tc_rs T t 1) → post u') : wpX_reset post u (nI t) :=
  ⟨128, tc_x_reset_l ht 127 1 u T rfl hu hp⟩
theorem tc_x_treeT {post : Int32 → Prop} {t : Nat} (ht : t < 2) (h : post 1) : wpX_isTree post (nI t) := by
  have k : t = 0 ∨ t = 1 := by omega
  rcases k with rfl | rfl
  · exact br_t rfl h
  · exact br_f (by decide) (br_t rfl h)
theorem tc_x_treeF {post : Int32 → Prop} {x : Int32} (h0 : ¬ x = 0) (h1 : ¬ x = 1) (h : post 0) : wpX_isTree post x := br_f h0 (br_f h1 h)
theorem tc_tree (x : Int32) : (∃ t : Nat, t < 2 ∧ x = nI t) ∨ (¬ x = 0 ∧ ¬ x = 1) := by
  by_cases h0 : x = 0
  · exact Or.inl ⟨0, by decide, h0⟩
  · by_cases h1 : x = 1
    · exact Or.inl ⟨1, by decide, h1⟩
    · exact Or.inr ⟨h0, h1⟩
theorem tc_set (x : Int32) : (∃ g : Nat, g < 128 ∧ x = nI g) ∨ x < 0 ∨ (¬ x < 0 ∧ 128 ≤ x) := by
  rcases pk_ix x (n := 128) (by decide) with h | h | h
  · exact Or.inr (Or.inl h)
  · by_cases h0 : x < 0
    · exact Or.inr (Or.inl h0)
    · exact Or.inr (Or.inr ⟨h0, h⟩)
  · exact Or.inl h
theorem tc_mem (x : Int32) : (∃ g : Nat, g < 7 ∧ x = nI g) ∨ x < 0 ∨ (¬ x < 0 ∧ 7 ≤ x) := by
  rcases pk_ix x (n := 7) (by decide) with h | h | h
  · exact Or.inr (Or.inl h)
  · by_cases h0 : x < 0
    · exact Or.inr (Or.inl h0)
    · exact Or.inr (Or.inr ⟨h0, h⟩)
  · exact Or.inl h
theorem tc_x_setT {post : Int32 → Prop} {g : Nat} (hg : g < 128) (h : post 1) : wpX_isSet post (nI g) := br_f (nI_pos (by omega)) (br_f (tc_lt hg) h)
theorem tc_x_setF {post : Int32 → Prop} {x : Int32} (hx : x < 0 ∨ (¬ x < 0 ∧ 128 ≤ x)) (h : post 0) : wpX_isSet post x := by
  rcases hx with k | ⟨k, l⟩
  · exact br_t k h
  · exact br_f k (br_t l h)
theorem tc_x_memT {post : Int32 → Prop} {g : Nat} (hg : g < 7) (h : post 1) : wpX_isMember post (nI g) := br_f (nI_pos (by omega)) (br_f (tc_lt7 hg) h)
theorem tc_x_memF {post : Int32 → Prop} {x : Int32} (hx : x < 0 ∨ (¬ x < 0 ∧ 7 ≤ x)) (h : post 0) : wpX_isMember post x := by
  rcases hx with k | ⟨k, l⟩
  · exact br_t k h
  · exact br_f k (br_t l h)
theorem tc_x_has {post : Int32 → Prop} {u : SX} {T : Nat → Nat → Bool} (hu : tc_RX u T) {t g : Nat} (ht : t < 2) (hg : g < 128) (h : post (tc_b (T t g))) : wpX_has post u (nI t) (nI g) := by
  have e : (((u (nI g).toNatClampNeg) >>> (nI t &&& 31)) &&& 1 = 1) ↔ T t g = true := by
    rw [nI_clamp (by omega), hu g hg]
    exact tc_en_b T g t ht
  refine ⟨vp_in_nI hg (by decide), ?_⟩
  cases b : T t g with
  | false => rw [b] at h e; exact br_f (fun z => absurd (e.mp z) (by decide)) h
  | true => rw [b] at h e; exact br_t (e.mpr rfl) h
section
variable {post : Int32 → Prop} {u : SX} {T : Nat → Nat → Bool}
theorem tc_x_fits_l (hu : tc_RX u T) {t g : Nat} (ht : t < 2) (hg : g < 128) : ∀ d j, j + d = 128 → post (tc_b (tc_al (fun j => !(tc_cr g j && T t j)) d j)) → wX_fits_2 post (nI t) (nI g) u (d + 1) (nI j) := by
  intro d
  induction d with
  | zero =>
    intro j hj hp
    have e : j = 128 := by omega
    rw [e]
    exact br_t tc_ge hp
  | succ d ih =>
    intro j hj hp
    have hj' : j < 128 := by omega
    have hgj : g &&& j < 128 := tc_andlt hg j
    have hp' : post (tc_b (!(tc_cr g j && T t j) && tc_al (fun j => !(tc_cr g j && T t j)) d (j + 1))) := hp
    have K : (tc_cr g j && T t j) = false → wX_fits_2 post (nI t) (nI g) u (d + 1) (nI (j + 1)) := by
      intro z
      rw [z] at hp'
      exact ih (j + 1) (by omega) hp'
    have K0 : tc_cr g j = false → wX_fits_35 post (wX_fits_2 post (nI t) (nI g) u (d + 1)) (nI t) (nI g) (nI j) u := fun z =>
      br_t rfl (nm_r (nI_1 j) (K (by rw [z]; rfl)))
    have C : ∀ (_ : g &&& j = 0 ∨ g &&& j = g ∨ g &&& j = j), tc_cr g j = false := by
      intro o
      cases c : tc_cr g j with
      | false => rfl
      | true =>
        obtain ⟨c1, c2, c3⟩ := (tc_cr_iff g j).mp c
        rcases o with o | o | o
        · exact absurd o c1
        · exact absurd o c2
        · exact absurd o c3
    refine br_f (tc_lt hj') (nm_r (nx_and g j) ?_)
    refine pk_eq (g &&& j) 0 (fun z => K0 (C (Or.inl z))) (fun n1 => pk_eq (g &&& j) g (fun z => K0 (C (Or.inr (Or.inl z)))) (fun n2 => pk_eq (g &&& j) j (fun z => K0 (C (Or.inr (Or.inr z)))) (fun n3 => ?_)))
    refine br_f (by decide) (tc_x_has hu ht hj' (tc_br (fun z => nm_r (nI_1 j) (K (by rw [z, Bool.and_false]))) (fun z => ?_)))
    have c : tc_cr g j = true := (tc_cr_iff g j).mpr ⟨n1, n2, n3⟩
    rw [c, z] at hp'
    exact hp'
theorem tc_x_fits (hu : tc_RX u T) {t g : Nat} (ht : t < 2) (hg : g < 128) (h : post (tc_b (tc_ft (T t) g))) : wpX_fits post u (nI t) (nI g) :=
  ⟨128, tc_x_fits_l hu ht hg 127 1 rfl h⟩
theorem tc_x_groups (hu : tc_RX u T) {t : Nat} (ht : t < 2) (h : post (nI (0 + tc_cn (T t) 127 1))) : ∃ n, wX_groups_13 post (nI t) u n 0 1 :=
  ⟨128, tc_cnt (wX_groups_13 post (nI t) u) post (T t) (fun n c z => br_t tc_ge z)
    (fun n i c hi hf hs => br_f (tc_lt hi) (tc_x_has hu ht hi (tc_br (fun z => nm_r (nI_1 i) (hf z)) (fun z => nm_r (nI_1 c) (nm_r (nI_1 i) (hs z)))))) 127 1 0 rfl h⟩
theorem tc_x_join_l (hu : tc_RX u T) {t s : Nat} (ht : t < 2) (hs : s < 128) : ∀ d j, j + d = 128 → post (nI (tc_fi (tc_jq (T t) s) (fun g => g) 127 d j)) → wX_join_24 post (nI t) (nI s) u (d + 1) (nI j) := by
  intro d
  induction d with
  | zero =>
    intro j hj hp
    have e : j = 128 := by omega
    rw [e]
    exact br_t tc_ge hp
  | succ d ih =>
    intro j hj hp
    have hj' : j < 128 := by omega
    have hjs : j &&& s < 128 := tc_andlt hj' s
    have hp' : post (nI (cond (T t j && j &&& s == s) j (tc_fi (tc_jq (T t) s) (fun g => g) 127 d (j + 1)))) := hp
    have K : (T t j && j &&& s == s) = false → wX_join_24 post (nI t) (nI s) u (d + 1) (nI (j + 1)) := by
      intro z
      rw [z] at hp'
      exact ih (j + 1) (by omega) hp'
    refine br_f (tc_lt hj') (tc_x_has hu ht hj' (tc_br (fun z => nm_r (nI_1 j) (K (by rw [z]; rfl))) (fun z => pk_eq (j &&& s) s (fun q => ?_) (fun q => nm_r (nI_1 j) (K (by rw [beq_eq_false_iff_ne.mpr q, Bool.and_false]))) (nx_and j s))))
    rw [z, q, beq_self_eq_true] at hp'
    exact hp'
theorem tc_x_join (hu : tc_RX u T) {t s : Nat} (ht : t < 2) (hs : s < 128) (h : post (nI (tc_fi (tc_jq (T t) s) (fun g => g) 127 127 1))) : ∃ n, wX_join_24 post (nI t) (nI s) u n 1 :=
  ⟨128, tc_x_join_l hu ht hs 127 1 rfl h⟩
theorem tc_x_cp_l (hu : tc_RX u T) {t s : Nat} (ht : t < 2) (hs : s < 128) : ∀ d j, j + d = 128 → post (nI (tc_fi (fun g => T t g && tc_sz (g &&& s) == 2) (fun g => g &&& s) 0 d j)) → wX_closerPair_2 post (nI t) (nI s) u (d + 1) (nI j) := by
  intro d
  induction d with
  | zero =>
    intro j hj hp
    have e : j = 128 := by omega
    rw [e]
    exact br_t tc_ge hp
  | succ d ih =>
    intro j hj hp
    have hj' : j < 128 := by omega
    have hjs : j &&& s < 128 := tc_andlt hj' s
    have hp' : post (nI (cond (T t j && tc_sz (j &&& s) == 2) (j &&& s) (tc_fi (fun g => T t g && tc_sz (g &&& s) == 2) (fun g => g &&& s) 0 d (j + 1)))) := hp
    have K : (T t j && tc_sz (j &&& s) == 2) = false → wX_closerPair_2 post (nI t) (nI s) u (d + 1) (nI (j + 1)) := by
      intro z
      rw [z] at hp'
      exact ih (j + 1) (by omega) hp'
    refine br_f (tc_lt hj') (nm_r (nx_and j s) (tc_x_has hu ht hj' (tc_br (fun z => nm_r (nI_1 j) (K (by rw [z]; rfl))) (fun z => tc_x_size hjs (pk_eq (tc_sz (j &&& s)) 2 (fun q => ?_) (fun q => nm_r (nI_1 j) (K (by rw [beq_eq_false_iff_ne.mpr q, Bool.and_false]))) rfl rfl (tc_sz31 hjs))))))
    rw [z, q] at hp'
    exact hp'
theorem tc_x_cp (hu : tc_RX u T) {t s : Nat} (ht : t < 2) (hs : s < 128) (h : post (nI (tc_cp (T t) s))) : wpX_closerPair post u (nI t) (nI s) :=
  ⟨128, tc_x_cp_l hu ht hs 127 1 rfl h⟩
theorem tc_cp31 (P : Nat → Bool) (s : Nat) : tc_cp P s < 2 ^ 31 := Nat.lt_trans (tc_cp_lt P s) (by decide)
theorem tc_x_decided (hu : tc_RX u T) {t : Nat} (ht : t < 2) (h : post (nI (0 + tc_cn (fun s => tc_sz s == 3 && !(tc_cp (T t) s == 0)) 128 0))) : ∃ n, wX_decided_13 post (nI t) u n 0 0 := by
  refine ⟨129, tc_cnt (wX_decided_13 post (nI t) u) post (fun s => tc_sz s == 3 && !(tc_cp (T t) s == 0)) (fun n c z => br_t tc_ge z) (fun n i c hi hf hs => ?_) 128 0 0 rfl h⟩
  refine br_f (tc_lt hi) (tc_x_size hi (pk_eq (tc_sz i) 3 (fun z => tc_x_cp hu ht hi (pk_eq (tc_cp (T t) i) 0 (fun q => nm_r (nI_1 i) (hf ?_)) (fun q => nm_r (nI_1 c) (nm_r (nI_1 i) (hs ?_))) rfl rfl (tc_cp31 _ _))) (fun z => nm_r (nI_1 i) (hf ?_)) rfl rfl (tc_sz31 hi)))
  · rw [z, q]; rfl
  · rw [z, beq_eq_false_iff_ne.mpr q]; rfl
  · rw [beq_eq_false_iff_ne.mpr z]; rfl
theorem tc_bb {a b : Bool} {A B : Prop} (f : a = b → A) (g : ¬ a = b → B) : (tc_b a = tc_b b → A) ∧ (¬ tc_b a = tc_b b → B) := by
  cases a <;> cases b
  · exact br_t rfl (f rfl)
  · exact br_f (by decide) (g (by decide))
  · exact br_f (by decide) (g (by decide))
  · exact br_t rfl (f rfl)
theorem tc_x_gd (hu : tc_RX u T) (h : post (nI (0 + tc_cn (fun g => !(T 0 g == T 1 g)) 127 1))) : wpX_groupDistance post u := by
  refine ⟨128, tc_cnt (wX_groupDistance_4 post u) post (fun g => !(T 0 g == T 1 g)) (fun n c z => br_t tc_ge z) (fun n i c hi hf hs => ?_) 127 1 0 rfl h⟩
  refine br_f (tc_lt hi) (tc_x_has (t := 0) hu (by decide) hi (tc_x_has (t := 1) hu (by decide) hi (tc_bb (fun z => nm_r (nI_1 i) (hf ?_)) (fun z => nm_r (nI_1 c) (nm_r (nI_1 i) (hs ?_))))))
  · rw [z, beq_self_eq_true]; rfl
  · rw [beq_eq_false_iff_ne.mpr z]; rfl
theorem tc_x_disp (hu : tc_RX u T) {s : Nat} (hs : s < 128) (h : post (nI (0 + tc_cn (tc_dq T s) 128 0))) : wpX_disputesWithin post u (nI s) := by
  refine ⟨129, tc_cnt (wX_disputesWithin_4 post (nI s) u) post (tc_dq T s) (fun n c z => br_t tc_ge z) (fun n i c hi hf ht => ?_) 128 0 0 rfl h⟩
  have his : i &&& s < 128 := tc_andlt hi s
  have K0 : tc_dq T s i = false → wX_disputesWithin_30 post (wX_disputesWithin_4 post (nI s) u n) (nI s) (nI c) (nI i) u := fun z => br_t rfl (nm_r (nI_1 i) (hf z))
  refine br_f (tc_lt hi) (pk_eq (i &&& s) i (fun z => tc_x_size hi (pk_eq (tc_sz i) 3 (fun q => ?_) (fun q => K0 ?_) rfl rfl (tc_sz31 hi))) (fun z => K0 ?_) (nx_and i s))
  · refine br_f (by decide) (tc_x_cp (t := 0) hu (by decide) hi (tc_x_cp (t := 1) hu (by decide) hi (pk_eq (tc_cp (T 0) i) (tc_cp (T 1) i) (fun w => nm_r (nI_1 i) (hf ?_)) (fun w => nm_r (nI_1 c) (nm_r (nI_1 i) (ht ?_))) rfl rfl (tc_cp31 _ _) (tc_cp31 _ _))))
    · unfold tc_dq; rw [w, beq_self_eq_true, Bool.not_true, Bool.and_false, Bool.and_false]
    · unfold tc_dq; rw [z, q, beq_self_eq_true, beq_eq_false_iff_ne.mpr w]; rfl
  · unfold tc_dq; rw [beq_eq_false_iff_ne.mpr q, Bool.false_and, Bool.and_false]
  · unfold tc_dq; rw [beq_eq_false_iff_ne.mpr z, Bool.false_and]
theorem tc_dn (s : Nat) : 0 + tc_cn (tc_dq T s) 128 0 = 0 ↔ tc_ag T s = true := by
  rw [Nat.zero_add]
  exact tc_cn_0 (tc_dq T s) 128 0
theorem tc_dn31 (s : Nat) : 0 + tc_cn (tc_dq T s) 128 0 < 2 ^ 31 := by
  have := tc_cn_le (tc_dq T s) 128 0
  omega
theorem tc_x_large_l (hu : tc_RX u T) : ∀ d i b, i + d = 128 → b < 128 → post (nI (tc_bs (tc_ag T) d i b)) → wX_largestAgreed_4 post u (d + 1) (nI b) (nI i) := by
  intro d
  induction d with
  | zero =>
    intro i b hi hb hp
    have e : i = 128 := by omega
    rw [e]
    exact br_t tc_ge hp
  | succ d ih =>
    intro i b hi hb hp
    have hi' : i < 128 := by omega
    have hp' : post (nI (tc_bs (tc_ag T) d (i + 1) (cond (decide (tc_sz b < tc_sz i) && tc_ag T i) i b))) := hp
    refine br_f (tc_lt hi') (tc_x_size hi' (tc_x_size hb (pk_le (tc_sz i) (tc_sz b) (fun z => nm_r (nI_1 i) (ih (i + 1) b (by omega) hb ?_)) (fun z => tc_x_disp hu hi' (pk_eq (0 + tc_cn (tc_dq T i) 128 0) 0 (fun q => nm_r (nI_1 i) (ih (i + 1) i (by omega) hi' ?_)) (fun q => nm_r (nI_1 i) (ih (i + 1) b (by omega) hb ?_)) rfl rfl (tc_dn31 i))) rfl rfl (tc_sz31 hi') (tc_sz31 hb))))
    · rw [decide_eq_false (by omega)] at hp'
      exact hp'
    · rw [decide_eq_true z, (tc_dn i).mp q] at hp'
      exact hp'
    · have w : tc_ag T i = false := by
        cases a : tc_ag T i with
        | false => rfl
        | true => exact absurd ((tc_dn i).mpr a) q
      rw [w, Bool.and_false] at hp'
      exact hp'
theorem tc_x_large (hu : tc_RX u T) (h : post (nI (tc_bs (tc_ag T) 127 1 0))) : wpX_largestAgreed post u := ⟨128, tc_x_large_l hu 127 1 0 rfl (by decide) h⟩
theorem tc_x_tog_l (hu : tc_RX u T) : ∀ d j, j + d = 128 → post (tc_b (tc_al (fun g => !T 0 g || tc_ft (T 1) g) d j)) → wX_together_2 post u (d + 1) (nI j) := by
  intro d
  induction d with
  | zero =>
    intro j hj hp
    have e : j = 128 := by omega
    rw [e]
    exact br_t tc_ge hp
  | succ d ih =>
    intro j hj hp
    have hj' : j < 128 := by omega
    have hp' : post (tc_b ((!T 0 j || tc_ft (T 1) j) && tc_al (fun g => !T 0 g || tc_ft (T 1) g) d (j + 1))) := hp
    refine br_f (tc_lt hj') (tc_x_has (t := 0) hu (by decide) hj' (tc_br (fun z => nm_r (nI_1 j) (ih (j + 1) (by omega) ?_)) (fun z => tc_x_fits (t := 1) hu (by decide) hj' (tc_br (fun q => ?_) (fun q => nm_r (nI_1 j) (ih (j + 1) (by omega) ?_))))))
    · rw [z] at hp'; exact hp'
    · rw [z, q] at hp'; exact hp'
    · rw [q, Bool.or_true] at hp'; exact hp'
theorem tc_x_tog (hu : tc_RX u T) (h : post (tc_b (tc_al (fun g => !T 0 g || tc_ft (T 1) g) 127 1))) : wpX_together post u := ⟨128, tc_x_tog_l hu 127 1 rfl h⟩
theorem tc_en3 (a b : Bool) : tc_en a b = 3 ↔ (a && b) = true := by cases a <;> cases b <;> decide +kernel
theorem tc_x_common (hu : tc_RX u T) (h : post (nI (0 + tc_cn (fun g => T 0 g && T 1 g) 127 1))) : wpX_common post u := by
  refine ⟨128, tc_cnt (wX_common_4 post u) post (fun g => T 0 g && T 1 g) (fun n c z => br_t tc_ge z) (fun n i c hi hf hs => ?_) 127 1 0 rfl h⟩
  have e : u (nI i).toNatClampNeg = 3 ↔ (T 0 i && T 1 i) = true := by
    rw [nI_clamp (by omega), hu i hi]
    exact tc_en3 _ _
  refine br_f (tc_lt hi) ⟨vp_in_nI hi (by decide), br_c (fun z => nm_r (nI_1 c) (nm_r (nI_1 i) (hs (e.mp z)))) (fun z => nm_r (nI_1 i) (hf ?_))⟩
  cases w : (T 0 i && T 1 i) with
  | false => rfl
  | true => exact absurd (e.mpr w) z
theorem tc_x_depth (hu : tc_RX u T) {t m : Nat} (ht : t < 2) (hm : m < 7) (h : post (nI (0 + tc_cn (fun g => T t g && g / 2 ^ m % 2 == 1) 127 1))) : ∃ n, wX_depth_21 post (nI t) (nI m) u n 0 1 := by
  refine ⟨128, tc_cnt (wX_depth_21 post (nI t) (nI m) u) post (fun g => T t g && g / 2 ^ m % 2 == 1) (fun n c z => br_t tc_ge z) (fun n i c hi hf hs => ?_) 127 1 0 rfl h⟩
  refine br_f (tc_lt hi) (tc_x_has hu ht hi (tc_br (fun z => nm_r (nI_1 i) (hf ?_)) (fun z => pk_eq (i / 2 ^ m % 2) 1 (fun q => nm_r (nI_1 c) (nm_r (nI_1 i) (hs ?_))) (fun q => nm_r (nI_1 i) (hf ?_)) (tc_t_bit i hi m hm) rfl (by omega))))
  · rw [z]; rfl
  · rw [z, q]; rfl
  · rw [beq_eq_false_iff_ne.mpr q, Bool.and_false]
theorem tc_x_room (hu : tc_RX u T) {t : Nat} (ht : t < 2) (h : post (nI (0 + tc_cn (fun g => !T t g && tc_ft (T t) g) 127 1))) : ∃ n, wX_room_13 post (nI t) u n 0 1 := by
  refine ⟨128, tc_cnt (wX_room_13 post (nI t) u) post (fun g => !T t g && tc_ft (T t) g) (fun n c z => br_t tc_ge z) (fun n i c hi hf hs => ?_) 127 1 0 rfl h⟩
  refine br_f (tc_lt hi) (tc_x_has hu ht hi (tc_br (fun z => tc_x_fits hu ht hi (tc_br (fun q => nm_r (nI_1 i) (hf ?_)) (fun q => nm_r (nI_1 c) (nm_r (nI_1 i) (hs ?_))))) (fun z => nm_r (nI_1 i) (hf ?_))))
  · rw [q, Bool.and_false]
  · rw [z, q]; rfl
  · rw [z]; rfl
end
