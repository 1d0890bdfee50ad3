section HNmquest
variable {I : Nat → Nat → Int32} {J : Nat → Nat → Int64} {R : Nat → Nat → Option Nat} {N : sp_N} {Q : sp_Q}
theorem q_M_stringsFrom {k : Nat} (hB : hs_B I R N Q) (hk : k < 8) : hn_F 0 hm_M_stringsFrom [.ref 188, .int (nI k)] (I, J, R) (fun r D' => D' = (I, J, R) ∧ r = some (.int (qS Q k))) := by
  obtain ⟨hR, hN, hQ, hfm, hw, hAw⟩ := hB
  have hM := hs_M_of hR
  have hN0 := hN
  have hQ0 := hQ
  have hw0 := hw
  obtain ⟨⟨hn, n8, hnp, n4, hkn⟩, hL⟩ := hN
  obtain ⟨⟨_, hVs, hVw, hVp, hVh⟩, hVt⟩ := hQ
  simp only [Nat.zero_add] at hVs hVw hVp hVh
  obtain ⟨m1, m4, m5, m6, m9, m10, m11, m12, m14, m15, m16, m17, m20, m21, m22, m23, m25, m27, m28, m29, m30, m31, m32⟩ := id hM
  refine hn_F_of _ hk_M_stringsFrom rfl (Nat.le_of_ble_eq_true rfl) ?_
  refine b_aload_n rfl rfl ?_
  refine b_getR rfl (by first | rfl | assumption) rfl (by assumption) ?_
  refine b_iconst rfl ?_
  refine b_iload_n rfl rfl ?_
  refine b_iadd rfl ?_
  refine b_iaload rfl (by first | rfl | assumption) (hi_ix (1 + k) (by rw [nI_ad]; rfl) (by omega)) (by omega) ?_
  rw [hVs k hk]
  exact b_ireturn rfl trivial (⟨rfl, rfl⟩)
theorem q_M_stringsTo {k : Nat} (hB : hs_B I R N Q) (hk : k < 8) : hn_F 1 hm_M_stringsTo [.ref 188, .int (nI k)] (I, J, R) (fun r D' => D' = (I, J, R) ∧ r = some (.int (sp_set (fun o => sp_bit (qS Q o) k) N.1))) := by
  have hB0 := hB
  obtain ⟨hR, hN, hQ, hfm, hw, hAw⟩ := hB
  have hM := hs_M_of hR
  have hN0 := hN
  have hQ0 := hQ
  have hw0 := hw
  obtain ⟨⟨hn, n8, hnp, n4, hkn⟩, hL⟩ := hN
  obtain ⟨⟨_, hVs, hVw, hVp, hVh⟩, hVt⟩ := hQ
  simp only [Nat.zero_add] at hVs hVw hVp hVh
  obtain ⟨m1, m4, m5, m6, m9, m10, m11, m12, m14, m15, m16, m17, m20, m21, m22, m23, m25, m27, m28, m29, m30, m31, m32⟩ := id hM
  refine hn_F_of _ hk_M_stringsTo rfl (Nat.le_of_ble_eq_true rfl) ?_
  refine b_iconst rfl ?_
  refine b_istore_n rfl (Nat.le_of_ble_eq_true rfl) ?_
  refine b_iconst rfl ?_
  refine b_istore_n rfl (Nat.le_of_ble_eq_true rfl) ?_
  refine b_eq (sp_ind N.1 (fun o => hn_B 1 hm_M_stringsTo (fun r D' => D' = (I, J, R) ∧ r = some (.int (sp_set (fun o => sp_bit (qS Q o) k) N.1))) 4 [.ref 188, .int (nI k), .int (sp_set (fun o => sp_bit (qS Q o) k) o), .int (nI o)] [] (I, J, R)) ?_ ?_) (by rw [nI_0]; rfl) rfl rfl
  · refine b_iload_n rfl rfl ?_
    refine b_aload_n rfl rfl ?_
    refine b_callV rfl rfl hk_M_knots rfl rfl rfl (by first | rfl | assumption) rfl (Nat.le_of_ble_eq_true rfl) (q_M_knots hM hn) (Nat.le_of_ble_eq_true rfl) (fun r_6 D_6 q_6 => ?_)
    obtain ⟨rfl, rfl⟩ := q_6
    refine b_icmp_ge rfl (fun c_9 => ?_) (fun c_9 => ?_)
    · refine b_iload_n rfl rfl ?_
      exact b_ireturn rfl trivial (⟨rfl, rfl⟩)
    · exact absurd (nI_le (Nat.le_refl _) (by omega)) c_9
  · intro o ho ih
    refine b_iload_n rfl rfl ?_
    refine b_aload_n rfl rfl ?_
    refine b_callV rfl rfl hk_M_knots rfl rfl rfl (by first | rfl | assumption) rfl (Nat.le_of_ble_eq_true rfl) (q_M_knots hM hn) (Nat.le_of_ble_eq_true rfl) (fun r_6 D_6 q_6 => ?_)
    obtain ⟨rfl, rfl⟩ := q_6
    refine b_icmp_ge rfl (fun c_9 => ?_) (fun c_9 => ?_)
    · exact absurd c_9 (nI_ge ho (by omega))
    · refine b_iload_n rfl rfl ?_
      refine b_aload_n rfl rfl ?_
      refine b_iload_n rfl rfl ?_
      refine b_callV rfl rfl hk_M_stringsFrom rfl rfl rfl (by first | rfl | assumption) rfl (Nat.le_of_ble_eq_true rfl) (q_M_stringsFrom hB0 (show o < 8 by omega)) (Nat.le_of_ble_eq_true rfl) (fun r_15 D_15 q_15 => ?_)
      obtain ⟨rfl, rfl⟩ := q_15
      refine b_iload_n rfl rfl ?_
      refine b_ishr rfl ?_
      refine b_iconst rfl ?_
      refine b_iand rfl ?_
      refine b_iconst rfl ?_
      refine b_icmp_ne rfl (fun c_23 => ?_) (fun c_23 => ?_)
      · refine b_iconst rfl ?_
        refine b_ior rfl ?_
        refine b_istore_n rfl (Nat.le_of_ble_eq_true rfl) ?_
        refine b_iinc rfl rfl (Nat.le_of_ble_eq_true rfl) ?_
        refine b_goto rfl ?_
        exact b_eq ih (by have h1 := c_23; rw [hi_bit1] at h1; first | (simp only [nI_succ, sp_set, sp_up, if_neg h1, Int32.or_zero]; rfl) | (simp only [nI_succ, sp_set, sp_up, if_pos (Decidable.not_not.mp h1)]; rfl) | (simp only [nI_succ, sp_set, sp_up, if_pos h1]; rfl)) rfl rfl
      · refine b_iconst rfl ?_
        refine b_iload_n rfl rfl ?_
        refine b_ishl rfl ?_
        refine b_goto rfl ?_
        refine b_ior rfl ?_
        refine b_istore_n rfl (Nat.le_of_ble_eq_true rfl) ?_
        refine b_iinc rfl rfl (Nat.le_of_ble_eq_true rfl) ?_
        refine b_goto rfl ?_
        exact b_eq ih (by have h1 := c_23; rw [hi_bit1] at h1; first | (simp only [nI_succ, sp_set, sp_up, if_neg h1, Int32.or_zero]; rfl) | (simp only [nI_succ, sp_set, sp_up, if_pos (Decidable.not_not.mp h1)]; rfl) | (simp only [nI_succ, sp_set, sp_up, if_pos h1]; rfl)) rfl rfl
theorem q_M_onFrom {m : Int32} (hB : hs_B I R N Q) : hn_F 1 hm_M_onFrom [.ref 188, .int m] (I, J, R) (fun r D' => D' = (I, J, R) ∧ r = some (.int (sp_union (qS Q) m 8))) := by
  have hB0 := hB
  obtain ⟨hR, hN, hQ, hfm, hw, hAw⟩ := hB
  have hM := hs_M_of hR
  have hN0 := hN
  have hQ0 := hQ
  have hw0 := hw
  obtain ⟨⟨hn, n8, hnp, n4, hkn⟩, hL⟩ := hN
  obtain ⟨⟨_, hVs, hVw, hVp, hVh⟩, hVt⟩ := hQ
  simp only [Nat.zero_add] at hVs hVw hVp hVh
  obtain ⟨m1, m4, m5, m6, m9, m10, m11, m12, m14, m15, m16, m17, m20, m21, m22, m23, m25, m27, m28, m29, m30, m31, m32⟩ := id hM
  rw [sp_union_8 hw0.2.2.1 n8]
  refine hn_F_of _ hk_M_onFrom rfl (Nat.le_of_ble_eq_true rfl) ?_
  refine b_iconst rfl ?_
  refine b_istore_n rfl (Nat.le_of_ble_eq_true rfl) ?_
  refine b_iconst rfl ?_
  refine b_istore_n rfl (Nat.le_of_ble_eq_true rfl) ?_
  refine b_eq (sp_ind N.1 (fun o => hn_B 1 hm_M_onFrom (fun r D' => D' = (I, J, R) ∧ r = some (.int (sp_union (qS Q) m N.1))) 4 [.ref 188, .int m, .int (sp_union (qS Q) m o), .int (nI o)] [] (I, J, R)) ?_ ?_) (by rw [nI_0]; rfl) rfl rfl
  · refine b_iload_n rfl rfl ?_
    refine b_aload_n rfl rfl ?_
    refine b_callV rfl rfl hk_M_knots rfl rfl rfl (by first | rfl | assumption) rfl (Nat.le_of_ble_eq_true rfl) (q_M_knots hM hn) (Nat.le_of_ble_eq_true rfl) (fun r_6 D_6 q_6 => ?_)
    obtain ⟨rfl, rfl⟩ := q_6
    refine b_icmp_ge rfl (fun c_9 => ?_) (fun c_9 => ?_)
    · refine b_iload_n rfl rfl ?_
      exact b_ireturn rfl trivial (⟨rfl, rfl⟩)
    · exact absurd (nI_le (Nat.le_refl _) (by omega)) c_9
  · intro o ho ih
    refine b_iload_n rfl rfl ?_
    refine b_aload_n rfl rfl ?_
    refine b_callV rfl rfl hk_M_knots rfl rfl rfl (by first | rfl | assumption) rfl (Nat.le_of_ble_eq_true rfl) (q_M_knots hM hn) (Nat.le_of_ble_eq_true rfl) (fun r_6 D_6 q_6 => ?_)
    obtain ⟨rfl, rfl⟩ := q_6
    refine b_icmp_ge rfl (fun c_9 => ?_) (fun c_9 => ?_)
    · exact absurd c_9 (nI_ge ho (by omega))
    · refine b_iload_n rfl rfl ?_
      refine b_iload_n rfl rfl ?_
      refine b_iload_n rfl rfl ?_
      refine b_ishr rfl ?_
      refine b_iconst rfl ?_
      refine b_iand rfl ?_
      refine b_iconst rfl ?_
      refine b_icmp_ne rfl (fun c_19 => ?_) (fun c_19 => ?_)
      · refine b_iconst rfl ?_
        refine b_ior rfl ?_
        refine b_istore_n rfl (Nat.le_of_ble_eq_true rfl) ?_
        refine b_iinc rfl rfl (Nat.le_of_ble_eq_true rfl) ?_
        refine b_goto rfl ?_
        exact b_eq ih (by have h1 := c_19; rw [hi_bit1] at h1; first | (simp only [nI_succ, sp_union, sp_up, if_neg h1, Int32.or_zero]; rfl) | (simp only [nI_succ, sp_union, sp_up, if_pos h1]; rfl)) rfl rfl
      · refine b_aload_n rfl rfl ?_
        refine b_iload_n rfl rfl ?_
        refine b_callV rfl rfl hk_M_stringsFrom rfl rfl rfl (by first | rfl | assumption) rfl (Nat.le_of_ble_eq_true rfl) (q_M_stringsFrom hB0 (show o < 8 by omega)) (Nat.le_of_ble_eq_true rfl) (fun r_24 D_24 q_24 => ?_)
        obtain ⟨rfl, rfl⟩ := q_24
        refine b_goto rfl ?_
        refine b_ior rfl ?_
        refine b_istore_n rfl (Nat.le_of_ble_eq_true rfl) ?_
        refine b_iinc rfl rfl (Nat.le_of_ble_eq_true rfl) ?_
        refine b_goto rfl ?_
        exact b_eq ih (by have h1 := c_19; rw [hi_bit1] at h1; first | (simp only [nI_succ, sp_union, sp_up, if_neg h1, Int32.or_zero]; rfl) | (simp only [nI_succ, sp_union, sp_up, if_pos h1]; rfl)) rfl rfl
theorem q_M_reachOf {k : Nat} (hB : hs_B I R N Q) (hk : k < 8) : hn_F 2 hm_M_reachOf [.ref 188, .int (nI k)] (I, J, R) (fun r D' => D' = (I, J, R) ∧ r = some (.int (sp_reach (qS Q) k))) := by
  refine hn_F_of _ hk_M_reachOf rfl (Nat.le_of_ble_eq_true rfl) ?_
  refine b_aload_n rfl rfl ?_
  refine b_iload_n rfl rfl ?_
  refine b_callV rfl rfl hk_M_stringsFrom rfl rfl rfl (by first | rfl | assumption) rfl (Nat.le_of_ble_eq_true rfl) (q_M_stringsFrom hB hk) (Nat.le_of_ble_eq_true rfl) (fun r_2 D_2 q_2 => ?_)
  obtain ⟨rfl, rfl⟩ := q_2
  refine b_istore_n rfl (Nat.le_of_ble_eq_true rfl) ?_
  refine b_iconst rfl ?_
  refine b_istore_n rfl (Nat.le_of_ble_eq_true rfl) ?_
  refine b_eq (sp_ind 8 (fun o => hn_B 2 hm_M_reachOf (fun r D' => D' = (I, J, R) ∧ r = some (.int (sp_reach (qS Q) k))) 8 [.ref 188, .int (nI k), .int (sp_up (fun _ r => r ||| sp_union (qS Q) r 8) (qS Q k) o), .int (nI o)] [] (I, J, R)) ?_ ?_) (by rw [nI_0]; rfl) rfl rfl
  · refine b_iload_n rfl rfl ?_
    refine b_bipush rfl ?_
    refine b_icmp_ge rfl (fun c_11 => ?_) (fun c_11 => ?_)
    · refine b_iload_n rfl rfl ?_
      exact b_ireturn rfl trivial (⟨rfl, rfl⟩)
    · exact absurd (show (8 : Int32) ≤ nI 8 by decide) c_11
  · intro o ho ih
    refine b_iload_n rfl rfl ?_
    refine b_bipush rfl ?_
    refine b_icmp_ge rfl (fun c_11 => ?_) (fun c_11 => ?_)
    · exact absurd (show nI 8 ≤ nI o from c_11) (nI_ge ho (by omega))
    · refine b_iload_n rfl rfl ?_
      refine b_aload_n rfl rfl ?_
      refine b_iload_n rfl rfl ?_
      refine b_callV rfl rfl hk_M_onFrom rfl rfl rfl (by first | rfl | assumption) rfl (Nat.le_of_ble_eq_true rfl) (q_M_onFrom hB) (Nat.le_of_ble_eq_true rfl) (fun r_17 D_17 q_17 => ?_)
      obtain ⟨rfl, rfl⟩ := q_17
      refine b_ior rfl ?_
      refine b_istore_n rfl (Nat.le_of_ble_eq_true rfl) ?_
      refine b_iinc rfl rfl (Nat.le_of_ble_eq_true rfl) ?_
      refine b_goto rfl ?_
      exact b_eq ih (by simp only [nI_succ, sp_up]; rfl) rfl rfl
theorem q_M_reach {x : Int32} (hB : hs_B I R N Q) : hn_F 3 hm_M_reach [.ref 188, .int x] (I, J, R) (fun r D' => hs_sm I J R D' ∧ r = some (.int (sp_at x N.1 (fun k => sp_reach (qS Q) k) (-1)))) := by
  have n8 : N.1 ≤ 8 := hB.2.1.1.2.1
  refine hn_F_of _ hk_M_reach rfl (Nat.le_of_ble_eq_true rfl) ?_
  by_cases hx : sp_in x N.1
  · obtain ⟨k, hk, rfl⟩ := sp_in_nat hx
    rw [sp_at_in hk n8]
    refine b_aload_n rfl rfl ?_
    refine b_iconst rfl ?_
    refine b_putI rfl (by first | rfl | assumption) rfl rfl ⟨rfl, rfl⟩ ?_
    have hB1 := hs_B_0 (v := 0) hB
    have hs0 : hs_sm I J R (hn_u I 188 0 0, J, R) := hs_sm_0
    generalize hn_u I 188 0 0 = I0 at hB1 hs0 ⊢
    have hB2 := hB1
    obtain ⟨hR, hN, hQ, hfm, hw, hAw⟩ := hB1
    have hM := hs_M_of hR
    have hN0 := hN
    have hQ0 := hQ
    have hw0 := hw
    obtain ⟨⟨hn, n8, hnp, n4, hkn⟩, hL⟩ := hN
    obtain ⟨⟨_, hVs, hVw, hVp, hVh⟩, hVt⟩ := hQ
    simp only [Nat.zero_add] at hVs hVw hVp hVh
    obtain ⟨m1, m4, m5, m6, m9, m10, m11, m12, m14, m15, m16, m17, m20, m21, m22, m23, m25, m27, m28, m29, m30, m31, m32⟩ := id hM
    refine b_aload_n rfl rfl ?_
    refine b_iload_n rfl rfl ?_
    refine b_callV rfl rfl hk_M_isKnot rfl rfl rfl (by first | rfl | assumption) rfl (Nat.le_of_ble_eq_true rfl) (q_M_isKnot hM hn n8) (Nat.le_of_ble_eq_true rfl) (fun r_7 D_7 q_7 => ?_)
    obtain ⟨rfl, hq⟩ := q_7
    rw [if_pos hx] at hq
    subst hq
    refine b_if_eq rfl (fun c_10 => ?_) (fun c_10 => ?_)
    · exact absurd c_10 (by decide)
    · refine b_aload_n rfl rfl ?_
      refine b_iload_n rfl rfl ?_
      refine b_callV rfl rfl hk_M_reachOf rfl rfl rfl (by first | rfl | assumption) rfl (Nat.le_of_ble_eq_true rfl) (q_M_reachOf hB2 (show k < 8 by omega)) (Nat.le_of_ble_eq_true rfl) (fun r_15 D_15 q_15 => ?_)
      obtain ⟨rfl, rfl⟩ := q_15
      refine b_goto rfl ?_
      exact b_ireturn rfl trivial (⟨hs0, rfl⟩)
  · rw [sp_at_out hx]
    refine b_aload_n rfl rfl ?_
    refine b_iconst rfl ?_
    refine b_putI rfl (by first | rfl | assumption) rfl rfl ⟨rfl, rfl⟩ ?_
    have hB1 := hs_B_0 (v := 0) hB
    have hs0 : hs_sm I J R (hn_u I 188 0 0, J, R) := hs_sm_0
    generalize hn_u I 188 0 0 = I0 at hB1 hs0 ⊢
    have hB2 := hB1
    obtain ⟨hR, hN, hQ, hfm, hw, hAw⟩ := hB1
    have hM := hs_M_of hR
    have hN0 := hN
    have hQ0 := hQ
    have hw0 := hw
    obtain ⟨⟨hn, n8, hnp, n4, hkn⟩, hL⟩ := hN
    obtain ⟨⟨_, hVs, hVw, hVp, hVh⟩, hVt⟩ := hQ
    simp only [Nat.zero_add] at hVs hVw hVp hVh
    obtain ⟨m1, m4, m5, m6, m9, m10, m11, m12, m14, m15, m16, m17, m20, m21, m22, m23, m25, m27, m28, m29, m30, m31, m32⟩ := id hM
    refine b_aload_n rfl rfl ?_
    refine b_iload_n rfl rfl ?_
    refine b_callV rfl rfl hk_M_isKnot rfl rfl rfl (by first | rfl | assumption) rfl (Nat.le_of_ble_eq_true rfl) (q_M_isKnot hM hn n8) (Nat.le_of_ble_eq_true rfl) (fun r_7 D_7 q_7 => ?_)
    obtain ⟨rfl, hq⟩ := q_7
    rw [if_neg hx] at hq
    subst hq
    refine b_if_eq rfl (fun c_10 => ?_) (fun c_10 => ?_)
    · refine b_iconst rfl ?_
      exact b_ireturn rfl trivial (⟨hs0, rfl⟩)
    · exact absurd rfl c_10
theorem q_M_rings (hB : hs_B I R N Q) : hn_F 3 hm_M_rings [.ref 188] (I, J, R) (fun r D' => hs_sm I J R D' ∧ r = some (.int (v_rings (qS Q) N.1))) := by
  refine hn_F_of _ hk_M_rings rfl (Nat.le_of_ble_eq_true rfl) ?_
  refine b_aload_n rfl rfl ?_
  refine b_iconst rfl ?_
  refine b_putI rfl (by first | rfl | assumption) rfl rfl ⟨rfl, rfl⟩ ?_
  have hB1 := hs_B_0 (v := 0) hB
  have hs0 : hs_sm I J R (hn_u I 188 0 0, J, R) := hs_sm_0
  generalize hn_u I 188 0 0 = I0 at hB1 hs0 ⊢
  have hB2 := hB1
  obtain ⟨hR, hN, hQ, hfm, hw, hAw⟩ := hB1
  have hM := hs_M_of hR
  have hN0 := hN
  have hQ0 := hQ
  have hw0 := hw
  obtain ⟨⟨hn, n8, hnp, n4, hkn⟩, hL⟩ := hN
  obtain ⟨⟨_, hVs, hVw, hVp, hVh⟩, hVt⟩ := hQ
  simp only [Nat.zero_add] at hVs hVw hVp hVh
  obtain ⟨m1, m4, m5, m6, m9, m10, m11, m12, m14, m15, m16, m17, m20, m21, m22, m23, m25, m27, m28, m29, m30, m31, m32⟩ := id hM
  refine b_iconst rfl ?_
  refine b_istore_n rfl (Nat.le_of_ble_eq_true rfl) ?_
  refine b_iconst rfl ?_
  refine b_istore_n rfl (Nat.le_of_ble_eq_true rfl) ?_
  refine b_eq (sp_ind N.1 (fun k => hn_B 3 hm_M_rings (fun r D' => hs_sm I J R D' ∧ r = some (.int (v_rings (qS Q) N.1))) 9 [.ref 188, .int (v_rings (qS Q) k), .int (nI k)] [] (I0, J, R)) ?_ ?_) (by rw [nI_0]; rfl) rfl rfl
  · refine b_iload_n rfl rfl ?_
    refine b_aload_n rfl rfl ?_
    refine b_callV rfl rfl hk_M_knots rfl rfl rfl (by first | rfl | assumption) rfl (Nat.le_of_ble_eq_true rfl) (q_M_knots hM hn) (Nat.le_of_ble_eq_true rfl) (fun r_11 D_11 q_11 => ?_)
    obtain ⟨rfl, rfl⟩ := q_11
    refine b_icmp_ge rfl (fun c_14 => ?_) (fun c_14 => ?_)
    · refine b_iload_n rfl rfl ?_
      exact b_ireturn rfl trivial (⟨hs0, rfl⟩)
    · exact absurd (nI_le (Nat.le_refl _) (by omega)) c_14
  · intro k hk ih
    refine b_iload_n rfl rfl ?_
    refine b_aload_n rfl rfl ?_
    refine b_callV rfl rfl hk_M_knots rfl rfl rfl (by first | rfl | assumption) rfl (Nat.le_of_ble_eq_true rfl) (q_M_knots hM hn) (Nat.le_of_ble_eq_true rfl) (fun r_11 D_11 q_11 => ?_)
    obtain ⟨rfl, rfl⟩ := q_11
    refine b_icmp_ge rfl (fun c_14 => ?_) (fun c_14 => ?_)
    · exact absurd c_14 (nI_ge hk (by omega))
    · refine b_iload_n rfl rfl ?_
      refine b_aload_n rfl rfl ?_
      refine b_iload_n rfl rfl ?_
      refine b_callV rfl rfl hk_M_reachOf rfl rfl rfl (by first | rfl | assumption) rfl (Nat.le_of_ble_eq_true rfl) (q_M_reachOf hB2 (show k < 8 by omega)) (Nat.le_of_ble_eq_true rfl) (fun r_20 D_20 q_20 => ?_)
      obtain ⟨rfl, rfl⟩ := q_20
      refine b_iconst rfl ?_
      refine b_iload_n rfl rfl ?_
      refine b_ishl rfl ?_
      refine b_iand rfl ?_
      refine b_ior rfl ?_
      refine b_istore_n rfl (Nat.le_of_ble_eq_true rfl) ?_
      refine b_iinc rfl rfl (Nat.le_of_ble_eq_true rfl) ?_
      refine b_goto rfl ?_
      exact b_eq ih (by simp only [nI_succ, v_rings, sp_up]; rfl) rfl rfl
theorem q_M_ends (hB : hs_B I R N Q) : hn_F 1 hm_M_ends [.ref 188] (I, J, R) (fun r D' => hs_sm I J R D' ∧ r = some (.int (v_ends (qS Q) N.1))) := by
  refine hn_F_of _ hk_M_ends rfl (Nat.le_of_ble_eq_true rfl) ?_
  refine b_aload_n rfl rfl ?_
  refine b_iconst rfl ?_
  refine b_putI rfl (by first | rfl | assumption) rfl rfl ⟨rfl, rfl⟩ ?_
  have hB1 := hs_B_0 (v := 0) hB
  have hs0 : hs_sm I J R (hn_u I 188 0 0, J, R) := hs_sm_0
  generalize hn_u I 188 0 0 = I0 at hB1 hs0 ⊢
  have hB2 := hB1
  obtain ⟨hR, hN, hQ, hfm, hw, hAw⟩ := hB1
  have hM := hs_M_of hR
  have hN0 := hN
  have hQ0 := hQ
  have hw0 := hw
  obtain ⟨⟨hn, n8, hnp, n4, hkn⟩, hL⟩ := hN
  obtain ⟨⟨_, hVs, hVw, hVp, hVh⟩, hVt⟩ := hQ
  simp only [Nat.zero_add] at hVs hVw hVp hVh
  obtain ⟨m1, m4, m5, m6, m9, m10, m11, m12, m14, m15, m16, m17, m20, m21, m22, m23, m25, m27, m28, m29, m30, m31, m32⟩ := id hM
  refine b_iconst rfl ?_
  refine b_istore_n rfl (Nat.le_of_ble_eq_true rfl) ?_
  refine b_iconst rfl ?_
  refine b_istore_n rfl (Nat.le_of_ble_eq_true rfl) ?_
  refine b_eq (sp_ind N.1 (fun k => hn_B 1 hm_M_ends (fun r D' => hs_sm I J R D' ∧ r = some (.int (v_ends (qS Q) N.1))) 9 [.ref 188, .int (v_ends (qS Q) k), .int (nI k)] [] (I0, J, R)) ?_ ?_) (by rw [nI_0]; rfl) rfl rfl
  · refine b_iload_n rfl rfl ?_
    refine b_aload_n rfl rfl ?_
    refine b_callV rfl rfl hk_M_knots rfl rfl rfl (by first | rfl | assumption) rfl (Nat.le_of_ble_eq_true rfl) (q_M_knots hM hn) (Nat.le_of_ble_eq_true rfl) (fun r_11 D_11 q_11 => ?_)
    obtain ⟨rfl, rfl⟩ := q_11
    refine b_icmp_ge rfl (fun c_14 => ?_) (fun c_14 => ?_)
    · refine b_iload_n rfl rfl ?_
      exact b_ireturn rfl trivial (⟨hs0, rfl⟩)
    · exact absurd (nI_le (Nat.le_refl _) (by omega)) c_14
  · intro k hk ih
    refine b_iload_n rfl rfl ?_
    refine b_aload_n rfl rfl ?_
    refine b_callV rfl rfl hk_M_knots rfl rfl rfl (by first | rfl | assumption) rfl (Nat.le_of_ble_eq_true rfl) (q_M_knots hM hn) (Nat.le_of_ble_eq_true rfl) (fun r_11 D_11 q_11 => ?_)
    obtain ⟨rfl, rfl⟩ := q_11
    refine b_icmp_ge rfl (fun c_14 => ?_) (fun c_14 => ?_)
    · exact absurd c_14 (nI_ge hk (by omega))
    · refine b_iload_n rfl rfl ?_
      refine b_aload_n rfl rfl ?_
      refine b_iload_n rfl rfl ?_
      refine b_callV rfl rfl hk_M_stringsFrom rfl rfl rfl (by first | rfl | assumption) rfl (Nat.le_of_ble_eq_true rfl) (q_M_stringsFrom hB2 (show k < 8 by omega)) (Nat.le_of_ble_eq_true rfl) (fun r_20 D_20 q_20 => ?_)
      obtain ⟨rfl, rfl⟩ := q_20
      refine b_if_ne rfl (fun c_23 => ?_) (fun c_23 => ?_)
      · refine b_iconst rfl ?_
        refine b_ior rfl ?_
        refine b_istore_n rfl (Nat.le_of_ble_eq_true rfl) ?_
        refine b_iinc rfl rfl (Nat.le_of_ble_eq_true rfl) ?_
        refine b_goto rfl ?_
        exact b_eq ih (by first | (simp only [nI_succ, v_ends, sp_set, sp_up, if_neg c_23, Int32.or_zero]; rfl) | (simp only [nI_succ, v_ends, sp_set, sp_up, if_pos c_23]; rfl)) rfl rfl
      · refine b_iconst rfl ?_
        refine b_iload_n rfl rfl ?_
        refine b_ishl rfl ?_
        refine b_goto rfl ?_
        refine b_ior rfl ?_
        refine b_istore_n rfl (Nat.le_of_ble_eq_true rfl) ?_
        refine b_iinc rfl rfl (Nat.le_of_ble_eq_true rfl) ?_
        refine b_goto rfl ?_
        exact b_eq ih (by first | (simp only [nI_succ, v_ends, sp_set, sp_up, if_neg c_23, Int32.or_zero]; rfl) | (simp only [nI_succ, v_ends, sp_set, sp_up, if_pos c_23]; rfl)) rfl rfl
theorem q_M_trails (hB : hs_B I R N Q) : hn_F 2 hm_M_trails [.ref 188] (I, J, R) (fun r D' => hs_sm I J R D' ∧ r = some (.int ((((1 : Int32) <<< (nI N.1 &&& 31)) - 1) &&& (sp_union (qS Q) (((1 : Int32) <<< (nI N.1 &&& 31)) - 1) 8 ^^^ -1)))) := by
  have hlt : ∀ k, sp_lt N.1 (qS Q k) := fun k => by
    by_cases h : k < N.1
    · exact hB.2.2.2.2.1.2.1 k h
    · rw [hB.2.2.2.2.1.2.2.1 k (by omega)]; exact sp_lt_0
  rw [sp_trails hlt hB.2.2.2.2.1.2.2.1 hB.2.1.1.2.1]
  refine hn_F_of _ hk_M_trails rfl (Nat.le_of_ble_eq_true rfl) ?_
  refine b_aload_n rfl rfl ?_
  refine b_iconst rfl ?_
  refine b_putI rfl (by first | rfl | assumption) rfl rfl ⟨rfl, rfl⟩ ?_
  have hB1 := hs_B_0 (v := 0) hB
  have hs0 : hs_sm I J R (hn_u I 188 0 0, J, R) := hs_sm_0
  generalize hn_u I 188 0 0 = I0 at hB1 hs0 ⊢
  have hB2 := hB1
  obtain ⟨hR, hN, hQ, hfm, hw, hAw⟩ := hB1
  have hM := hs_M_of hR
  have hN0 := hN
  have hQ0 := hQ
  have hw0 := hw
  obtain ⟨⟨hn, n8, hnp, n4, hkn⟩, hL⟩ := hN
  obtain ⟨⟨_, hVs, hVw, hVp, hVh⟩, hVt⟩ := hQ
  simp only [Nat.zero_add] at hVs hVw hVp hVh
  obtain ⟨m1, m4, m5, m6, m9, m10, m11, m12, m14, m15, m16, m17, m20, m21, m22, m23, m25, m27, m28, m29, m30, m31, m32⟩ := id hM
  refine b_iconst rfl ?_
  refine b_istore_n rfl (Nat.le_of_ble_eq_true rfl) ?_
  refine b_iconst rfl ?_
  refine b_istore_n rfl (Nat.le_of_ble_eq_true rfl) ?_
  refine b_eq (sp_ind N.1 (fun k => hn_B 2 hm_M_trails (fun r D' => hs_sm I J R D' ∧ r = some (.int (sp_set (fun k => sp_set (fun o => sp_bit (qS Q o) k) N.1 = 0) N.1))) 9 [.ref 188, .int (sp_set (fun k => sp_set (fun o => sp_bit (qS Q o) k) N.1 = 0) k), .int (nI k)] [] (I0, J, R)) ?_ ?_) (by rw [nI_0]; rfl) rfl rfl
  · refine b_iload_n rfl rfl ?_
    refine b_aload_n rfl rfl ?_
    refine b_callV rfl rfl hk_M_knots rfl rfl rfl (by first | rfl | assumption) rfl (Nat.le_of_ble_eq_true rfl) (q_M_knots hM hn) (Nat.le_of_ble_eq_true rfl) (fun r_11 D_11 q_11 => ?_)
    obtain ⟨rfl, rfl⟩ := q_11
    refine b_icmp_ge rfl (fun c_14 => ?_) (fun c_14 => ?_)
    · refine b_iload_n rfl rfl ?_
      exact b_ireturn rfl trivial (⟨hs0, rfl⟩)
    · exact absurd (nI_le (Nat.le_refl _) (by omega)) c_14
  · intro k hk ih
    have es : sp_set (fun k => sp_set (fun o => sp_bit (qS Q o) k) N.1 = 0) (k + 1) = if sp_set (fun o => sp_bit (qS Q o) k) N.1 = 0 then sp_set (fun k => sp_set (fun o => sp_bit (qS Q o) k) N.1 = 0) k ||| ((1 : Int32) <<< (nI k &&& 31)) else sp_set (fun k => sp_set (fun o => sp_bit (qS Q o) k) N.1 = 0) k := rfl
    rw [es] at ih
    refine b_iload_n rfl rfl ?_
    refine b_aload_n rfl rfl ?_
    refine b_callV rfl rfl hk_M_knots rfl rfl rfl (by first | rfl | assumption) rfl (Nat.le_of_ble_eq_true rfl) (q_M_knots hM hn) (Nat.le_of_ble_eq_true rfl) (fun r_11 D_11 q_11 => ?_)
    obtain ⟨rfl, rfl⟩ := q_11
    refine b_icmp_ge rfl (fun c_14 => ?_) (fun c_14 => ?_)
    · exact absurd c_14 (nI_ge hk (by omega))
    · refine b_iload_n rfl rfl ?_
      refine b_aload_n rfl rfl ?_
      refine b_iload_n rfl rfl ?_
      refine b_callV rfl rfl hk_M_stringsTo rfl rfl rfl (by first | rfl | assumption) rfl (Nat.le_of_ble_eq_true rfl) (q_M_stringsTo hB2 (show k < 8 by omega)) (Nat.le_of_ble_eq_true rfl) (fun r_20 D_20 q_20 => ?_)
      obtain ⟨rfl, rfl⟩ := q_20
      refine b_if_ne rfl (fun c_23 => ?_) (fun c_23 => ?_)
      · refine b_iconst rfl ?_
        refine b_ior rfl ?_
        refine b_istore_n rfl (Nat.le_of_ble_eq_true rfl) ?_
        refine b_iinc rfl rfl (Nat.le_of_ble_eq_true rfl) ?_
        refine b_goto rfl ?_
        first | (rw [if_neg c_23] at ih; exact b_eq ih (by rw [Int32.or_zero, nI_succ]; rfl) rfl rfl) | (rw [if_pos c_23] at ih; exact b_eq ih (by rw [nI_succ]; rfl) rfl rfl)
      · refine b_iconst rfl ?_
        refine b_iload_n rfl rfl ?_
        refine b_ishl rfl ?_
        refine b_goto rfl ?_
        refine b_ior rfl ?_
        refine b_istore_n rfl (Nat.le_of_ble_eq_true rfl) ?_
        refine b_iinc rfl rfl (Nat.le_of_ble_eq_true rfl) ?_
        refine b_goto rfl ?_
        first | (rw [if_neg c_23] at ih; exact b_eq ih (by rw [Int32.or_zero, nI_succ]; rfl) rfl rfl) | (rw [if_pos c_23] at ih; exact b_eq ih (by rw [nI_succ]; rfl) rfl rfl)
theorem q_M_firms {x : Int32} (hB : hs_B I R N Q) : hn_F 3 hm_M_firms [.ref 188, .int x] (I, J, R) (fun r D' => hs_sm I J R D' ∧ r = some (.int (sp_at x N.1 (fun k => v_firms (qS Q) (nH N) k N.1) (-1)))) := by
  have n8 : N.1 ≤ 8 := hB.2.1.1.2.1
  refine hn_F_of _ hk_M_firms rfl (Nat.le_of_ble_eq_true rfl) ?_
  by_cases hx : sp_in x N.1
  · obtain ⟨q, hq, rfl⟩ := sp_in_nat hx
    rw [sp_at_in hq n8]
    have L26 : ∀ I0, hs_B I0 R N Q → hs_sm I J R (I0, J, R) → hn_B 3 hm_M_firms (fun r D' => hs_sm I J R D' ∧ r = some (.int (v_firms (qS Q) (nH N) q N.1))) 26 [.ref 188, .int (nI q), .int (sp_reach (qS Q) q), .int (v_firms (qS Q) (nH N) q 0), .int (nI 0)] [] (I0, J, R) := by
      intro I0 hB hs0
      obtain ⟨hR, hN, hQ, hfm, hw, hAw⟩ := hB
      have hM := hs_M_of hR
      have hN0 := hN
      have hQ0 := hQ
      have hw0 := hw
      obtain ⟨⟨hn, n8, hnp, n4, hkn⟩, hL⟩ := hN
      obtain ⟨⟨_, hVs, hVw, hVp, hVh⟩, hVt⟩ := hQ
      simp only [Nat.zero_add] at hVs hVw hVp hVh
      obtain ⟨m1, m4, m5, m6, m9, m10, m11, m12, m14, m15, m16, m17, m20, m21, m22, m23, m25, m27, m28, m29, m30, m31, m32⟩ := id hM
      refine sp_ind N.1 (fun k => hn_B 3 hm_M_firms (fun r D' => hs_sm I J R D' ∧ r = some (.int (v_firms (qS Q) (nH N) q N.1))) 26 [.ref 188, .int (nI q), .int (sp_reach (qS Q) q), .int (v_firms (qS Q) (nH N) q k), .int (nI k)] [] (I0, J, R)) ?_ ?_
      · refine b_iload rfl rfl ?_
        refine b_aload_n rfl rfl ?_
        refine b_callV rfl rfl hk_M_knots rfl rfl rfl (by first | rfl | assumption) rfl (Nat.le_of_ble_eq_true rfl) (q_M_knots hM hn) (Nat.le_of_ble_eq_true rfl) (fun r_29 D_29 q_29 => ?_)
        obtain ⟨rfl, rfl⟩ := q_29
        refine b_icmp_ge rfl (fun c_32 => ?_) (fun c_32 => ?_)
        · refine b_iload_n rfl rfl ?_
          exact b_ireturn rfl trivial (⟨hs0, rfl⟩)
        · exact absurd (nI_le (Nat.le_refl _) (by omega)) c_32
      · intro k hk ih
        have e1 : I0 194 (5 + 4 * k + 1) = nH N k := by rw [← (hkn k hk).2.1]; congr 1; omega
        refine b_iload rfl rfl ?_
        refine b_aload_n rfl rfl ?_
        refine b_callV rfl rfl hk_M_knots rfl rfl rfl (by first | rfl | assumption) rfl (Nat.le_of_ble_eq_true rfl) (q_M_knots hM hn) (Nat.le_of_ble_eq_true rfl) (fun r_29 D_29 q_29 => ?_)
        obtain ⟨rfl, rfl⟩ := q_29
        refine b_icmp_ge rfl (fun c_32 => ?_) (fun c_32 => ?_)
        · exact absurd c_32 (nI_ge hk (by omega))
        · refine b_iload_n rfl rfl ?_
          refine b_iload_n rfl rfl ?_
          refine b_iload rfl rfl ?_
          refine b_ishr rfl ?_
          refine b_iconst rfl ?_
          refine b_iand rfl ?_
          refine b_iconst rfl ?_
          refine b_icmp_ne rfl (fun c_43 => ?_) (fun c_43 => ?_)
          · refine b_iconst rfl ?_
            refine b_iadd rfl ?_
            refine b_istore_n rfl (Nat.le_of_ble_eq_true rfl) ?_
            refine b_iinc rfl rfl (Nat.le_of_ble_eq_true rfl) ?_
            refine b_goto rfl ?_
            exact b_eq ih (by have h1 := c_43; rw [hi_bit1] at h1; first | (simp only [nI_succ, v_firms, sp_up, if_neg h1, Int32.add_zero]; rfl) | (simp only [nI_succ, v_firms, sp_up, if_pos h1]; rfl)) rfl rfl
          · refine b_aload_n rfl rfl ?_
            refine b_iload rfl rfl ?_
            refine b_iconst rfl ?_
            refine b_callV rfl rfl hk_M_knotOf rfl rfl rfl (by first | rfl | assumption) rfl (Nat.le_of_ble_eq_true rfl) (q_M_knotOf (w := 1) hM (show k < 8 by omega) rfl (by omega)) (Nat.le_of_ble_eq_true rfl) (fun r_50 D_50 q_50 => ?_)
            obtain ⟨rfl, hq2⟩ := q_50
            rw [e1] at hq2
            subst hq2
            refine b_goto rfl ?_
            refine b_iadd rfl ?_
            refine b_istore_n rfl (Nat.le_of_ble_eq_true rfl) ?_
            refine b_iinc rfl rfl (Nat.le_of_ble_eq_true rfl) ?_
            refine b_goto rfl ?_
            exact b_eq ih (by have h1 := c_43; rw [hi_bit1] at h1; first | (simp only [nI_succ, v_firms, sp_up, if_neg h1, Int32.add_zero]; rfl) | (simp only [nI_succ, v_firms, sp_up, if_pos h1]; rfl)) rfl rfl
    refine b_aload_n rfl rfl ?_
    refine b_iconst rfl ?_
    refine b_putI rfl (by first | rfl | assumption) rfl rfl ⟨rfl, rfl⟩ ?_
    have hB1 := hs_B_0 (v := 0) hB
    have hs0 : hs_sm I J R (hn_u I 188 0 0, J, R) := hs_sm_0
    generalize hn_u I 188 0 0 = I0 at hB1 hs0 ⊢
    have hB2 := hB1
    obtain ⟨hR, hN, hQ, hfm, hw, hAw⟩ := hB1
    have hM := hs_M_of hR
    have hN0 := hN
    have hQ0 := hQ
    have hw0 := hw
    obtain ⟨⟨hn, n8, hnp, n4, hkn⟩, hL⟩ := hN
    obtain ⟨⟨_, hVs, hVw, hVp, hVh⟩, hVt⟩ := hQ
    simp only [Nat.zero_add] at hVs hVw hVp hVh
    obtain ⟨m1, m4, m5, m6, m9, m10, m11, m12, m14, m15, m16, m17, m20, m21, m22, m23, m25, m27, m28, m29, m30, m31, m32⟩ := id hM
    refine b_aload_n rfl rfl ?_
    refine b_iload_n rfl rfl ?_
    refine b_callV rfl rfl hk_M_isKnot rfl rfl rfl (by first | rfl | assumption) rfl (Nat.le_of_ble_eq_true rfl) (q_M_isKnot hM hn n8) (Nat.le_of_ble_eq_true rfl) (fun r_7 D_7 q_7 => ?_)
    obtain ⟨rfl, hq2⟩ := q_7
    rw [if_pos hx] at hq2
    subst hq2
    refine b_if_ne rfl (fun c_10 => ?_) (fun c_10 => ?_)
    · refine b_aload_n rfl rfl ?_
      refine b_iload_n rfl rfl ?_
      refine b_callV rfl rfl hk_M_reachOf rfl rfl rfl (by first | rfl | assumption) rfl (Nat.le_of_ble_eq_true rfl) (q_M_reachOf hB2 (show q < 8 by omega)) (Nat.le_of_ble_eq_true rfl) (fun r_17 D_17 q_17 => ?_)
      obtain ⟨rfl, rfl⟩ := q_17
      refine b_istore_n rfl (Nat.le_of_ble_eq_true rfl) ?_
      refine b_iconst rfl ?_
      refine b_istore_n rfl (Nat.le_of_ble_eq_true rfl) ?_
      refine b_iconst rfl ?_
      refine b_istore rfl (Nat.le_of_ble_eq_true rfl) ?_
      exact b_eq (L26 _ hB2 hs0) (by rw [nI_0]; rfl) rfl rfl
    · exact absurd c_10 (by decide)
  · rw [sp_at_out hx]
    refine b_aload_n rfl rfl ?_
    refine b_iconst rfl ?_
    refine b_putI rfl (by first | rfl | assumption) rfl rfl ⟨rfl, rfl⟩ ?_
    have hB1 := hs_B_0 (v := 0) hB
    have hs0 : hs_sm I J R (hn_u I 188 0 0, J, R) := hs_sm_0
    generalize hn_u I 188 0 0 = I0 at hB1 hs0 ⊢
    have hB2 := hB1
    obtain ⟨hR, hN, hQ, hfm, hw, hAw⟩ := hB1
    have hM := hs_M_of hR
    have hN0 := hN
    have hQ0 := hQ
    have hw0 := hw
    obtain ⟨⟨hn, n8, hnp, n4, hkn⟩, hL⟩ := hN
    obtain ⟨⟨_, hVs, hVw, hVp, hVh⟩, hVt⟩ := hQ
    simp only [Nat.zero_add] at hVs hVw hVp hVh
    obtain ⟨m1, m4, m5, m6, m9, m10, m11, m12, m14, m15, m16, m17, m20, m21, m22, m23, m25, m27, m28, m29, m30, m31, m32⟩ := id hM
    refine b_aload_n rfl rfl ?_
    refine b_iload_n rfl rfl ?_
    refine b_callV rfl rfl hk_M_isKnot rfl rfl rfl (by first | rfl | assumption) rfl (Nat.le_of_ble_eq_true rfl) (q_M_isKnot hM hn n8) (Nat.le_of_ble_eq_true rfl) (fun r_7 D_7 q_7 => ?_)
    obtain ⟨rfl, hq⟩ := q_7
    rw [if_neg hx] at hq
    subst hq
    refine b_if_ne rfl (fun c_10 => ?_) (fun c_10 => ?_)
    · exact absurd rfl c_10
    · refine b_iconst rfl ?_
      exact b_ireturn rfl trivial (⟨hs0, rfl⟩)
end HNmquest
