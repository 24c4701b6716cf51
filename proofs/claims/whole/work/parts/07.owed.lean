def tc_ok (T : Nat → Nat → Bool) : Prop := ∀ t, t < 2 → tc_lam (T t) ∧ T t 0 = false
theorem tc_lamU {P Q : Nat → Bool} (L : tc_lam P) (P0 : P 0 = false) {g : Nat} (f : tc_ft P g = true) (hQ : ∀ j, Q j = true → j = g ∨ P j = true) : tc_lam Q := by
  rw [tc_ft_iff] at f
  have K : ∀ j, j < 128 → P j = true → tc_cr g j = false := by
    intro j hj pj
    rcases Nat.eq_zero_or_pos j with z | z
    · rw [z, P0] at pj; cases pj
    · exact f j z hj pj
  intro a ha qa b hb qb
  rcases hQ a qa with e | pa
  · rcases hQ b qb with e' | pb
    · rw [e, e']; exact tc_cr_r g
    · rw [e]; exact K b hb pb
  · rcases hQ b qb with e' | pb
    · rw [e', tc_cr_s]; exact K a ha pa
    · exact L a ha pa b hb pb
theorem tc_lamS {P Q : Nat → Bool} (L : tc_lam P) (hQ : ∀ j, Q j = true → P j = true) : tc_lam Q :=
  fun a ha qa b hb qb => L a ha (hQ a qa) b hb (hQ b qb)
theorem tc_ok_add {T : Nat → Nat → Bool} (h : tc_ok T) {t g : Nat} (ht : t < 2) (g0 : 0 < g) (f : tc_ft (T t) g = true) : tc_ok (tc_st T t g true) := by
  intro t' ht'
  obtain ⟨l, z⟩ := h t' ht'
  have z' : tc_st T t g true t' 0 = false := by rw [tc_st_o _ _ _ _ _ _ (by omega)]; exact z
  refine ⟨?_, z'⟩
  by_cases e : t' = t
  · rw [e] at l z ⊢
    refine tc_lamU l z f (fun j qj => ?_)
    by_cases ej : j = g
    · exact Or.inl ej
    · rw [tc_st_o _ _ _ _ _ _ ej] at qj
      exact Or.inr qj
  · refine tc_lamS l (fun j qj => ?_)
    have k : tc_st T t g true t' j = T t' j := by unfold tc_st; rw [beq_eq_false_iff_ne.mpr e]; rfl
    rw [k] at qj
    exact qj
theorem tc_ok_rem {T : Nat → Nat → Bool} (h : tc_ok T) {t g : Nat} : tc_ok (tc_st T t g false) := by
  intro t' ht'
  obtain ⟨l, z⟩ := h t' ht'
  have k : ∀ j, tc_st T t g false t' j = true → T t' j = true := by
    intro j qj
    unfold tc_st at qj
    cases c : (t' == t && j == g) with
    | true => rw [c] at qj; cases qj
    | false => rw [c] at qj; exact qj
  refine ⟨tc_lamS l k, ?_⟩
  cases c : tc_st T t g false t' 0 with
  | false => rfl
  | true => rw [← z]; exact (k 0 c).symm
theorem tc_ok_rs {T : Nat → Nat → Bool} (h : tc_ok T) (t : Nat) : tc_ok (tc_rs T t 1) := by
  intro t' ht'
  obtain ⟨l, z⟩ := h t' ht'
  have z' : tc_rs T t 1 t' 0 = false := by
    unfold tc_rs
    rw [decide_eq_false (by omega), Bool.and_false]
    exact z
  refine ⟨?_, z'⟩
  by_cases e : t' = t
  · have k : ∀ j, tc_rs T t 1 t' j = true → tc_gv j = true := by
      intro j qj
      rcases Nat.eq_zero_or_pos j with j0 | j0
      · rw [j0, z'] at qj; cases qj
      · unfold tc_rs at qj
        rw [e, beq_self_eq_true, decide_eq_true (by omega)] at qj
        exact qj
    exact fun a ha qa b hb qb => tc_t_gv a ha (k a qa) b hb (k b qb)
  · refine tc_lamS l (fun j qj => ?_)
    unfold tc_rs at qj
    rw [beq_eq_false_iff_ne.mpr e] at qj
    exact qj
def i_Rel (k : Nat) (u : SX) (v : SY) : Prop := ∃ T : Nat → Nat → Bool, tc_RX u T ∧ tc_RY v T ∧ tc_ok T
theorem i_up {k : Nat} {u : SX} {v : SY} (h : i_Rel k u v) : i_Rel (k + 5) u v := h
theorem tc_x00 : tc_RX (fun _ => 0) (fun _ _ => false) := fun g _ => rfl
theorem tc_y00 : tc_RY (fun _ => 0) (fun _ _ => false) := fun t _ g _ => rfl
theorem tc_o00 : tc_ok (fun _ _ => false) := fun t _ => ⟨fun a _ qa => absurd (show false = true from qa) (by decide), rfl⟩
theorem i_vc0 : wpX_init (fun u => wpY_init (fun v => i_Rel 0 u v)) := by
  unfold wpX_init wpY_init
  refine tc_x_reset (t := 0) (by decide) tc_x00 (fun u1 h1 => ?_)
  refine tc_x_reset (t := 1) (by decide) h1 (fun u2 h2 => ?_)
  refine tc_y_clearT (t := 0) (by decide) tc_y00 (fun v1 k1 => ?_)
  refine tc_y_clearT (t := 1) (by decide) k1 (fun v2 k2 => ?_)
  exact ⟨_, h2, k2, tc_ok_rs (tc_ok_rs tc_o00 0) 1⟩
theorem tc_yb {x : Int32} {A B : Prop} (hx : x < 0 ∨ (¬ x < 0 ∧ 128 ≤ x)) (a : A) : (x < 1 → A) ∧ (¬ x < 1 → ((127 < x → A) ∧ (¬ 127 < x → B))) := by
  by_cases h : x < 1
  · exact br_t h a
  · refine br_f h (br_t ?_ a)
    rcases hx with z | ⟨z, w⟩
    · exact absurd (Int32.lt_trans z (by decide)) h
    · exact tc_gt127 z w
theorem tc_yg {g : Nat} {A B C : Prop} (hg : g < 128) (g0 : 0 < g) (c : C) : (nI g < 1 → A) ∧ (¬ nI g < 1 → ((127 < nI g → B) ∧ (¬ 127 < nI g → C))) :=
  br_f (nI_nlt (a := g) (b := 1) (by omega) (by omega)) (br_f (tc_lt127 hg) c)
theorem i_vc_add {k : Nat} {u : SX} {v : SY} (I : i_Rel k u v) (hk : k + 5 ≤ 2560) (v1 : Int32) (v2 : Int32) : wpX_add (fun r u' => wpY_add (fun r' v' => r' = r ∧ i_Rel (k + 5) u' v') v v1 v2) u v1 v2 := by
  obtain ⟨T, hu, hv, hl⟩ := I
  unfold wpX_add wpY_add
  rcases tc_tree v1 with ⟨t, ht, rfl⟩ | ⟨h0, h1⟩
  · rcases tc_set v2 with ⟨g, hg, rfl⟩ | hx
    · refine tc_x_treeT ht (br_f (by decide) (tc_x_setT hg (br_f (by decide) ?_)))
      rcases Nat.eq_zero_or_pos g with rfl | g0
      · exact br_t rfl (tc_y_treeT ht (br_f (by decide) (br_t (by decide) ⟨rfl, T, hu, hv, hl⟩)))
      · refine br_f (nI_ne0 g0 (by omega)) (tc_x_fits hu ht hg (tc_br (fun z => ?_) (fun z => ⟨vp_in_nI hg (by decide), vp_in_nI hg (by decide), ?_⟩)))
        · exact tc_y_treeT ht (br_f (by decide) (tc_yg hg g0 (tc_y_fits hv ht hg (by rw [z]; exact br_t rfl ⟨rfl, T, hu, hv, hl⟩))))
        · refine nm_e (tc_y_treeT ht (br_f (by decide) (tc_yg hg g0 (tc_y_fits hv ht hg (tc_br (fun w => absurd (z.symm.trans w) (by decide)) (fun _ => ⟨tc_y_in ht hg, nm_e ⟨rfl, tc_st T t g true, ?_, ?_, tc_ok_add hl ht g0 z⟩⟩))))))
          · rw [nI_clamp (by omega)]
            exact tc_RX_or hu ht hg
          · rw [tc_y_cl ht hg]
            have e : vp_nar .boolean 1 = tc_b true := tc_vnar true
            rw [e]
            exact tc_RY_st hv ht hg true
    · exact tc_x_treeT ht (br_f (by decide) (tc_x_setF hx (br_t rfl (tc_y_treeT ht (br_f (by decide) (tc_yb hx ⟨rfl, T, hu, hv, hl⟩))))))
  · exact tc_x_treeF h0 h1 (br_t rfl (tc_y_treeF h0 h1 (br_t rfl ⟨rfl, T, hu, hv, hl⟩)))
theorem i_vc_remove {k : Nat} {u : SX} {v : SY} (I : i_Rel k u v) (hk : k + 5 ≤ 2560) (v1 : Int32) (v2 : Int32) : wpX_remove (fun r u' => wpY_remove (fun r' v' => r' = r ∧ i_Rel (k + 5) u' v') v v1 v2) u v1 v2 := by
  obtain ⟨T, hu, hv, hl⟩ := I
  unfold wpX_remove wpY_remove
  rcases tc_tree v1 with ⟨t, ht, rfl⟩ | ⟨h0, h1⟩
  · rcases tc_set v2 with ⟨g, hg, rfl⟩ | hx
    · refine tc_x_treeT ht (br_f (by decide) (tc_x_setT hg (br_f (by decide) (tc_x_has hu ht hg (tc_br (fun z => ?_) (fun z => tc_x_every hg (tc_br (fun q => ⟨vp_in_nI hg (by decide), vp_in_nI hg (by decide), ?_⟩) (fun q => ?_))))))))
      · rcases Nat.eq_zero_or_pos g with rfl | g0
        · exact tc_y_treeT ht (br_f (by decide) (br_t (by decide) ⟨rfl, T, hu, hv, hl⟩))
        · exact tc_y_treeT ht (br_f (by decide) (tc_yg hg g0 (tc_y_given hg (tc_br (fun w => tc_y_get hv ht hg (fun _ => ⟨rfl, T, hu, hv, hl⟩) (fun y => absurd (z.symm.trans y) (by decide))) (fun w => ⟨rfl, T, hu, hv, hl⟩)))))
      · have g0 : 0 < g := by
          rcases Nat.eq_zero_or_pos g with rfl | g0
          · rw [(hl t ht).2] at z; cases z
          · exact g0
        refine nm_e (tc_y_treeT ht (br_f (by decide) (tc_yg hg g0 (tc_y_given hg (tc_br (fun w => tc_y_get hv ht hg (fun y => absurd (z.symm.trans y) (by decide)) (fun _ => ⟨tc_y_in ht hg, nm_e ⟨rfl, tc_st T t g false, ?_, ?_, tc_ok_rem hl⟩⟩)) (fun w => absurd (q.symm.trans w) (by decide)))))))
        · rw [nI_clamp (by omega)]
          exact tc_RX_an hu ht hg
        · rw [tc_y_cl ht hg]
          have e : vp_nar .boolean 0 = tc_b false := tc_vnar false
          rw [e]
          exact tc_RY_st hv ht hg false
      · have g0 : 0 < g := by
          rcases Nat.eq_zero_or_pos g with rfl | g0
          · rw [(hl t ht).2] at z; cases z
          · exact g0
        exact tc_y_treeT ht (br_f (by decide) (tc_yg hg g0 (tc_y_given hg (tc_br (fun w => absurd (q.symm.trans w) (by decide)) (fun w => ⟨rfl, T, hu, hv, hl⟩)))))
    · exact tc_x_treeT ht (br_f (by decide) (tc_x_setF hx (br_t rfl (tc_y_treeT ht (br_f (by decide) (tc_yb hx ⟨rfl, T, hu, hv, hl⟩))))))
  · exact tc_x_treeF h0 h1 (br_t rfl (tc_y_treeF h0 h1 (br_t rfl ⟨rfl, T, hu, hv, hl⟩)))
theorem i_vc_clear {k : Nat} {u : SX} {v : SY} (I : i_Rel k u v) (hk : k + 5 ≤ 2560) (v1 : Int32) : wpX_clear (fun r u' => wpY_clear (fun r' v' => r' = r ∧ i_Rel (k + 5) u' v') v v1) u v1 := by
  obtain ⟨T, hu, hv, hl⟩ := I
  unfold wpX_clear
  rcases tc_tree v1 with ⟨t, ht, rfl⟩ | ⟨h0, h1⟩
  · exact tc_x_treeT ht (br_f (by decide) (tc_x_reset ht hu (fun u' h' => tc_y_clearT ht hv (fun v' k' => ⟨rfl, _, h', k', tc_ok_rs hl t⟩))))
  · exact tc_x_treeF h0 h1 (br_t rfl (tc_y_clearF h0 h1 ⟨rfl, T, hu, hv, hl⟩))
theorem i_vc_groups {k : Nat} {u : SX} {v : SY} (I : i_Rel k u v) (hk : k + 5 ≤ 2560) (v1 : Int32) : wpX_groups (fun r => wpY_groups (fun r' => r' = r ∧ i_Rel (k + 5) u v) v v1) u v1 := by
  obtain ⟨T, hu, hv, hl⟩ := I
  unfold wpX_groups
  rcases tc_tree v1 with ⟨t, ht, rfl⟩ | ⟨h0, h1⟩
  · exact tc_x_treeT ht (br_f (by decide) (tc_x_groups hu ht (tc_y_groups hv ht ⟨rfl, T, hu, hv, hl⟩)))
  · exact tc_x_treeF h0 h1 (br_t rfl (tc_y_groupsF h0 h1 ⟨rfl, T, hu, hv, hl⟩))
theorem i_vc_join {k : Nat} {u : SX} {v : SY} (I : i_Rel k u v) (hk : k + 5 ≤ 2560) (v1 : Int32) (v2 : Int32) : wpX_join (fun r => wpY_join (fun r' => r' = r ∧ i_Rel (k + 5) u v) v v1 v2) u v1 v2 := by
  obtain ⟨T, hu, hv, hl⟩ := I
  unfold wpX_join wpY_join
  rcases tc_tree v1 with ⟨t, ht, rfl⟩ | ⟨h0, h1⟩
  · rcases tc_set v2 with ⟨g, hg, rfl⟩ | hx
    · have l127 : nI g ≤ 127 := nI_le (a := g) (b := 127) (by omega) (by decide)
      refine tc_x_treeT ht (br_f (by decide) (tc_x_setT hg (br_f (by decide) ?_)))
      rcases Nat.eq_zero_or_pos g with rfl | g0
      · exact br_t rfl (tc_y_treeT ht (br_f (by decide) (br_f (by decide) (br_t l127 (tc_y_join0 hv ht ⟨rfl, T, hu, hv, hl⟩)))))
      · refine br_f (nI_ne0 g0 (by omega)) (tc_x_join hu ht hg (tc_y_treeT ht (br_f (by decide) (br_f (nI_pos (by omega)) (br_t l127 (tc_y_join hv ht hg g0 ?_))))))
        rw [tc_join (hl t ht).1 g0 127 1 rfl]
        exact ⟨rfl, T, hu, hv, hl⟩
    · refine tc_x_treeT ht (br_f (by decide) (tc_x_setF hx (br_t rfl (tc_y_treeT ht (br_f (by decide) ?_)))))
      rcases hx with z | ⟨z, w⟩
      · exact br_t z ⟨rfl, T, hu, hv, hl⟩
      · exact br_f z (br_f (Int32.not_le.mpr (tc_gt127 z w)) ⟨rfl, T, hu, hv, hl⟩)
  · exact tc_x_treeF h0 h1 (br_t rfl (tc_y_treeF h0 h1 (br_t rfl ⟨rfl, T, hu, hv, hl⟩)))
theorem tc_prle (a b c : Nat) : tc_pr b c ≤ tc_th a b c ∧ tc_pr a c ≤ tc_th a b c ∧ tc_pr a b ≤ tc_th a b c := by
  unfold tc_pr tc_th
  refine ⟨?_, ?_, Nat.left_le_or⟩
  · rw [Nat.or_assoc]; exact Nat.right_le_or
  · rw [Nat.or_comm (2 ^ a) (2 ^ b), Nat.or_assoc]; exact Nat.right_le_or
theorem i_vc_says {k : Nat} {u : SX} {v : SY} (I : i_Rel k u v) (hk : k + 5 ≤ 2560) (v1 : Int32) (v2 : Int32) (v3 : Int32) (v4 : Int32) : wpX_says (fun r => wpY_says (fun r' => r' = r ∧ i_Rel (k + 5) u v) v v1 v2 v3 v4) u v1 v2 v3 v4 := by
  obtain ⟨T, hu, hv, hl⟩ := I
  have R : i_Rel (k + 5) u v := ⟨T, hu, hv, hl⟩
  unfold wpX_says
  rcases tc_tree v1 with ⟨t, ht, rfl⟩ | ⟨h0, h1⟩
  · refine tc_x_treeT ht (br_f (by decide) ?_)
    rcases tc_mem v2 with ⟨a, ha, rfl⟩ | hx
    · refine tc_x_memT ha (br_f (by decide) ?_)
      rcases tc_mem v3 with ⟨b, hb, rfl⟩ | hx
      · refine tc_x_memT hb (br_f (by decide) ?_)
        rcases tc_mem v4 with ⟨c, hc, rfl⟩ | hx
        · refine tc_x_memT hc (br_f (by decide) ?_)
          by_cases ab : a = b
          · unfold wpY_says
            exact br_t (congrArg nI ab) (tc_y_treeT ht (br_f (by decide) (tc_y_memT ha (br_f (by decide) (tc_y_memT hb (br_f (by decide) (tc_y_memT hc (br_f (by decide) (br_t (congrArg nI ab) ⟨rfl, R⟩)))))))))
          · refine br_f (tc_nn ha hb ab) ?_
            by_cases ac : a = c
            · unfold wpY_says
              exact br_t (congrArg nI ac) (tc_y_treeT ht (br_f (by decide) (tc_y_memT ha (br_f (by decide) (tc_y_memT hb (br_f (by decide) (tc_y_memT hc (br_f (by decide) (br_f (tc_nn ha hb ab) (br_t (congrArg nI ac) ⟨rfl, R⟩))))))))))
            · refine br_f (tc_nn ha hc ac) ?_
              by_cases bc : b = c
              · unfold wpY_says
                exact br_t (congrArg nI bc) (tc_y_treeT ht (br_f (by decide) (tc_y_memT ha (br_f (by decide) (tc_y_memT hb (br_f (by decide) (tc_y_memT hc (br_f (by decide) (br_f (tc_nn ha hb ab) (br_f (tc_nn ha hc ac) (br_t (congrArg nI bc) ⟨rfl, R⟩)))))))))))
              · refine br_f (tc_nn hb hc bc) ?_
                obtain ⟨hs, z3, et⟩ := tc_t_th a ha b hb ab c hc ac bc
                obtain ⟨_, _, _, p1, p2, p3⟩ := tc_t_ne a ha b hb ab c hc ac bc
                obtain ⟨q1, q2, q3, q4, q5⟩ := tc_t_ap a ha b hb ab c hc ac bc
                have Y : ∀ r : Int32, r = nI (tc_sy (T t) a b c) → wpY_says (fun r' => r' = r ∧ i_Rel (k + 5) u v) v (nI t) (nI a) (nI b) (nI c) := fun r e => tc_y_says hv ht ha hb hc ab ac bc ⟨e.symm, R⟩
                have B1 : tc_pr b c < 128 := Nat.lt_of_le_of_lt (tc_prle a b c).1 hs
                have B2 : tc_pr a c < 128 := Nat.lt_of_le_of_lt (tc_prle a b c).2.1 hs
                have B3 : tc_pr a b < 128 := Nat.lt_of_le_of_lt (tc_prle a b c).2.2 hs
                refine nm_r et.symm (tc_x_cp hu ht hs ?_)
                rcases tc_say (hl t ht).1 ha hb hc ab ac bc with ⟨e, y⟩ | ⟨e, y⟩ | ⟨e, y⟩ | ⟨e, y⟩ <;> rw [e] <;> rw [y] at Y
                · exact br_f (nI_ne0 (Nat.pos_of_ne_zero p1) (by omega)) (nm_e (br_t q1 (Y 0 rfl)))
                · exact br_f (nI_ne0 (Nat.pos_of_ne_zero p2) (by omega)) (nm_e (br_f q2 (br_t q3 (Y 1 rfl))))
                · exact br_f (nI_ne0 (Nat.pos_of_ne_zero p3) (by omega)) (nm_e (br_f q4 (br_f q5 (Y 2 rfl))))
                · exact br_t rfl (Y 3 rfl)
        · unfold wpY_says
          exact tc_x_memF hx (br_t rfl (tc_y_treeT ht (br_f (by decide) (tc_y_memT ha (br_f (by decide) (tc_y_memT hb (br_f (by decide) (tc_y_memF hx (br_t rfl ⟨rfl, R⟩)))))))))
      · unfold wpY_says
        exact tc_x_memF hx (br_t rfl (tc_y_treeT ht (br_f (by decide) (tc_y_memT ha (br_f (by decide) (tc_y_memF hx (br_t rfl ⟨rfl, R⟩)))))))
    · unfold wpY_says
      exact tc_x_memF hx (br_t rfl (tc_y_treeT ht (br_f (by decide) (tc_y_memF hx (br_t rfl ⟨rfl, R⟩)))))
  · unfold wpY_says
    exact tc_x_treeF h0 h1 (br_t rfl (tc_y_treeF h0 h1 (br_t rfl ⟨rfl, R⟩)))
theorem i_vc_decided {k : Nat} {u : SX} {v : SY} (I : i_Rel k u v) (hk : k + 5 ≤ 2560) (v1 : Int32) : wpX_decided (fun r => wpY_decided (fun r' => r' = r ∧ i_Rel (k + 5) u v) v v1) u v1 := by
  obtain ⟨T, hu, hv, hl⟩ := I
  unfold wpX_decided
  rcases tc_tree v1 with ⟨t, ht, rfl⟩ | ⟨h0, h1⟩
  · exact tc_x_treeT ht (br_f (by decide) (tc_x_decided hu ht (tc_y_decided hv ht (hl t ht).1 ⟨rfl, T, hu, hv, hl⟩)))
  · exact tc_x_treeF h0 h1 (br_t rfl (tc_y_decidedF h0 h1 ⟨rfl, T, hu, hv, hl⟩))
theorem i_vc_groupDistance {k : Nat} {u : SX} {v : SY} (I : i_Rel k u v) (hk : k + 5 ≤ 2560) : wpX_groupDistance (fun r => wpY_groupDistance (fun r' => r' = r ∧ i_Rel (k + 5) u v) v) u := by
  obtain ⟨T, hu, hv, hl⟩ := I
  exact tc_x_gd hu (tc_y_gd hv ⟨rfl, T, hu, hv, hl⟩)
theorem i_vc_tripleDistance {k : Nat} {u : SX} {v : SY} (I : i_Rel k u v) (hk : k + 5 ≤ 2560) : wpX_tripleDistance (fun r => wpY_tripleDistance (fun r' => r' = r ∧ i_Rel (k + 5) u v) v) u := by
  obtain ⟨T, hu, hv, hl⟩ := I
  unfold wpX_tripleDistance
  refine tc_x_disp (s := 127) hu (by decide) (tc_y_td hv (hl 0 (by decide)).1 (hl 1 (by decide)).1 ⟨?_, T, hu, hv, hl⟩)
  rw [tc_cn_cg 128 0 (fun j _ hj => ?_)]
  show _ = tc_dq T 127 j
  unfold tc_dq
  rw [tc_t_all j (by omega), beq_self_eq_true, Bool.true_and]
theorem i_vc_agreement {k : Nat} {u : SX} {v : SY} (I : i_Rel k u v) (hk : k + 5 ≤ 2560) : wpX_agreement (fun r => wpY_agreement (fun r' => r' = r ∧ i_Rel (k + 5) u v) v) u := by
  obtain ⟨T, hu, hv, hl⟩ := I
  unfold wpX_agreement
  exact tc_x_large hu (tc_x_size (tc_bs_lt _ 127 1 0 (by decide) (by decide)) (tc_y_agm hv (hl 0 (by decide)).1 (hl 1 (by decide)).1 ⟨rfl, T, hu, hv, hl⟩))
theorem i_vc_agreeingSet {k : Nat} {u : SX} {v : SY} (I : i_Rel k u v) (hk : k + 5 ≤ 2560) : wpX_agreeingSet (fun r => wpY_agreeingSet (fun r' => r' = r ∧ i_Rel (k + 5) u v) v) u := by
  obtain ⟨T, hu, hv, hl⟩ := I
  unfold wpX_agreeingSet
  exact tc_x_large hu (tc_y_ags hv (hl 0 (by decide)).1 (hl 1 (by decide)).1 ⟨rfl, T, hu, hv, hl⟩)
theorem i_vc_agree {k : Nat} {u : SX} {v : SY} (I : i_Rel k u v) (hk : k + 5 ≤ 2560) (v1 : Int32) : wpX_agree (fun r => wpY_agree (fun r' => r' = r ∧ i_Rel (k + 5) u v) v v1) u v1 := by
  obtain ⟨T, hu, hv, hl⟩ := I
  have L0 := (hl 0 (by decide)).1
  have L1 := (hl 1 (by decide)).1
  unfold wpX_agree
  rcases tc_set v1 with ⟨s, hs, rfl⟩ | hx
  · refine tc_x_setT hs (br_f (by decide) (tc_x_disp hu hs (pk_eq (0 + tc_cn (tc_dq T s) 128 0) 0 (fun q => tc_y_agree hv L0 L1 hs ⟨?_, T, hu, hv, hl⟩) (fun q => tc_y_agree hv L0 L1 hs ⟨?_, T, hu, hv, hl⟩) rfl rfl (tc_dn31 s))))
    · rw [(tc_dn s).mp q]; rfl
    · cases a : tc_ag T s with
      | false => rfl
      | true => exact absurd ((tc_dn s).mpr a) q
  · exact tc_x_setF hx (br_t rfl (tc_y_agreeF hx ⟨rfl, T, hu, hv, hl⟩))
theorem i_vc_together {k : Nat} {u : SX} {v : SY} (I : i_Rel k u v) (hk : k + 5 ≤ 2560) : wpX_together (fun r => wpY_together (fun r' => r' = r ∧ i_Rel (k + 5) u v) v) u := by
  obtain ⟨T, hu, hv, hl⟩ := I
  exact tc_x_tog hu (tc_y_tog hv ⟨congrArg tc_b (tc_tog (T 1) (T 0)), T, hu, hv, hl⟩)
theorem i_vc_common {k : Nat} {u : SX} {v : SY} (I : i_Rel k u v) (hk : k + 5 ≤ 2560) : wpX_common (fun r => wpY_common (fun r' => r' = r ∧ i_Rel (k + 5) u v) v) u := by
  obtain ⟨T, hu, hv, hl⟩ := I
  exact tc_x_common hu (tc_y_common hv ⟨rfl, T, hu, hv, hl⟩)
theorem i_vc_depth {k : Nat} {u : SX} {v : SY} (I : i_Rel k u v) (hk : k + 5 ≤ 2560) (v1 : Int32) (v2 : Int32) : wpX_depth (fun r => wpY_depth (fun r' => r' = r ∧ i_Rel (k + 5) u v) v v1 v2) u v1 v2 := by
  obtain ⟨T, hu, hv, hl⟩ := I
  unfold wpX_depth
  rcases tc_tree v1 with ⟨t, ht, rfl⟩ | ⟨h0, h1⟩
  · rcases tc_mem v2 with ⟨m, hm, rfl⟩ | hx
    · exact tc_x_treeT ht (br_f (by decide) (tc_x_memT hm (br_f (by decide) (tc_x_depth hu ht hm (tc_y_depth hv ht hm ⟨rfl, T, hu, hv, hl⟩)))))
    · exact tc_x_treeT ht (br_f (by decide) (tc_x_memF hx (br_t rfl (tc_y_depthF2 ht hx ⟨rfl, T, hu, hv, hl⟩))))
  · exact tc_x_treeF h0 h1 (br_t rfl (tc_y_depthF1 h0 h1 ⟨rfl, T, hu, hv, hl⟩))
theorem i_vc_room {k : Nat} {u : SX} {v : SY} (I : i_Rel k u v) (hk : k + 5 ≤ 2560) (v1 : Int32) : wpX_room (fun r => wpY_room (fun r' => r' = r ∧ i_Rel (k + 5) u v) v v1) u v1 := by
  obtain ⟨T, hu, hv, hl⟩ := I
  unfold wpX_room
  rcases tc_tree v1 with ⟨t, ht, rfl⟩ | ⟨h0, h1⟩
  · exact tc_x_treeT ht (br_f (by decide) (tc_x_room hu ht (tc_y_room hv ht ⟨rfl, T, hu, hv, hl⟩)))
  · exact tc_x_treeF h0 h1 (br_t rfl (tc_y_roomF h0 h1 ⟨rfl, T, hu, hv, hl⟩))
