section HNmgoal
variable {I I' : Nat → Nat → Int32} {J J' : Nat → Nat → Int64} {R : Nat → Nat → Option Nat} {t : Nat} {N : sp_N} {Q Q' S : sp_Q} {U : sp_U} {V : sp_V}
theorem q_M_fewest_no {x a kx : Int32} (hB : hs_B I R N Q) (hs0 : hs_sm I J R (I', J, R)) (hx : ¬ sp_in x N.2.1) : hn_F 3 hm_M_fewest [.ref 188, .int x, .int a, .int kx] (I', J, R) (fun r D' => hs_sm I J R D' ∧ r = some (.int (-1))) := by
  have hM9 := hs_M_of hB.1
  have n4 : N.2.1 ≤ 4 := hB.2.1.1.2.2.2.1
  have hB1 := hs_B_sm hB hs0
  refine hn_F_of _ hk_M_fewest rfl (Nat.le_of_ble_eq_true rfl) ?_
  refine b_aload_n rfl rfl ?_
  refine b_iload_n rfl rfl ?_
  refine b_callV rfl rfl hk_M_isPerson rfl rfl rfl (by first | rfl | assumption) rfl (Nat.le_of_ble_eq_true rfl) (q_M_isPerson hM9 hB1.2.1.1.2.2.1 n4) (Nat.le_of_ble_eq_true rfl) (fun r_2 D_2 q_2 => ?_)
  obtain ⟨rfl, hq⟩ := q_2
  rw [if_neg hx] at hq
  subst hq
  refine b_if_eq rfl (fun c_5 => ?_) (fun c_5 => ?_)
  · refine b_iconst rfl ?_
    exact b_ireturn rfl trivial (⟨hs0, rfl⟩)
  · exact absurd rfl c_5
theorem q_M_goal {x y : Int32} (hB : hs_B I R N Q) : hn_F 4 hm_M_goal [.ref 188, .int x, .int y] (I, J, R) (fun r D' => hs_sm I J R D' ∧ r = some (.int (v_goal N Q x y))) := by
  have n8' : N.1 ≤ 8 := hB.2.1.1.2.1
  have n4' : N.2.1 ≤ 4 := hB.2.1.1.2.2.2.1
  refine hn_F_of _ hk_M_goal rfl (Nat.le_of_ble_eq_true rfl) ?_
  by_cases hy : sp_in y N.1
  · obtain ⟨k, hk, rfl⟩ := sp_in_nat hy
    by_cases hx : sp_in x N.2.1
    · obtain ⟨p, hp, rfl⟩ := sp_in_nat hx
      rw [v_goal, sp_at_in hp (by omega), sp_at_in hk n8']
      refine b_aload_n rfl rfl ?_
      refine b_iconst rfl ?_
      refine b_putI rfl (by first | rfl | assumption) rfl rfl ⟨rfl, rfl⟩ ?_
      have hB1 := hs_B_0 (v := 0) hB
      have hs0 : hs_sm I J R (hn_u I 188 0 0, J, R) := hs_sm_0
      obtain ⟨I0, h0⟩ : ∃ z, z = hn_u I 188 0 0 := ⟨_, rfl⟩
      rw [← h0] at hB1 hs0 ⊢
      have e0 : ∀ b, b ≠ 188 → I0 b = I b := fun b hb => by rw [h0, hn_u_ne _ _ _ hb]
      have e188 : ∀ j, j ≠ 0 → I0 188 j = I 188 j := fun j hj => by rw [h0, hn_u_eq, va_up, if_neg hj]
      have hB2 := hB1
      obtain ⟨hR, hN, hQ, hfm, hw, hAw⟩ := hB1
      have hM := hs_M_of hR
      have hN0 := hN
      have hQ0 := hQ
      have hw0 := hw
      obtain ⟨⟨hn, n8, hnp, n4, hkn⟩, hL⟩ := hN
      obtain ⟨⟨_, hVs, hVw, hVp, hVh⟩, hVt⟩ := hQ
      simp only [Nat.zero_add] at hVs hVw hVp hVh
      obtain ⟨m1, m4, m5, m6, m9, m10, m11, m12, m14, m15, m16, m17, m20, m21, m22, m23, m25, m27, m28, m29, m30, m31, m32⟩ := id hM
      refine b_aload_n rfl rfl ?_
      refine b_iload_n rfl rfl ?_
      refine b_callV rfl rfl hk_M_isKnot rfl rfl rfl (by first | rfl | assumption) rfl (Nat.le_of_ble_eq_true rfl) (q_M_isKnot hM hn n8) (Nat.le_of_ble_eq_true rfl) (fun r_7 D_7 q_7 => ?_)
      obtain ⟨rfl, hq⟩ := q_7
      rw [if_pos hy] at hq
      subst hq
      refine b_if_eq rfl (fun c_10 => ?_) (fun c_10 => ?_)
      · exact absurd c_10 (by decide)
      · refine b_aload_n rfl rfl ?_
        refine b_iload_n rfl rfl ?_
        refine b_iconst rfl ?_
        refine b_iload_n rfl rfl ?_
        refine b_callV rfl rfl hk_M_fewest rfl rfl rfl (by first | rfl | assumption) rfl (Nat.le_of_ble_eq_true rfl) (q_M_fewest (a := 0) (k0 := k) hB hs0 hp (by omega) (fun _ => ⟨hk, rfl⟩)) (Nat.le_of_ble_eq_true rfl) (fun r_17 D_17 q_17 => ?_)
        obtain ⟨hs9, rfl⟩ := q_17
        refine b_goto rfl ?_
        exact b_ireturn rfl trivial (⟨hs9, rfl⟩)
    · rw [v_goal, sp_at_out hx]
      refine b_aload_n rfl rfl ?_
      refine b_iconst rfl ?_
      refine b_putI rfl (by first | rfl | assumption) rfl rfl ⟨rfl, rfl⟩ ?_
      have hB1 := hs_B_0 (v := 0) hB
      have hs0 : hs_sm I J R (hn_u I 188 0 0, J, R) := hs_sm_0
      obtain ⟨I0, h0⟩ : ∃ z, z = hn_u I 188 0 0 := ⟨_, rfl⟩
      rw [← h0] at hB1 hs0 ⊢
      have e0 : ∀ b, b ≠ 188 → I0 b = I b := fun b hb => by rw [h0, hn_u_ne _ _ _ hb]
      have e188 : ∀ j, j ≠ 0 → I0 188 j = I 188 j := fun j hj => by rw [h0, hn_u_eq, va_up, if_neg hj]
      have hB2 := hB1
      obtain ⟨hR, hN, hQ, hfm, hw, hAw⟩ := hB1
      have hM := hs_M_of hR
      have hN0 := hN
      have hQ0 := hQ
      have hw0 := hw
      obtain ⟨⟨hn, n8, hnp, n4, hkn⟩, hL⟩ := hN
      obtain ⟨⟨_, hVs, hVw, hVp, hVh⟩, hVt⟩ := hQ
      simp only [Nat.zero_add] at hVs hVw hVp hVh
      obtain ⟨m1, m4, m5, m6, m9, m10, m11, m12, m14, m15, m16, m17, m20, m21, m22, m23, m25, m27, m28, m29, m30, m31, m32⟩ := id hM
      refine b_aload_n rfl rfl ?_
      refine b_iload_n rfl rfl ?_
      refine b_callV rfl rfl hk_M_isKnot rfl rfl rfl (by first | rfl | assumption) rfl (Nat.le_of_ble_eq_true rfl) (q_M_isKnot hM hn n8) (Nat.le_of_ble_eq_true rfl) (fun r_7 D_7 q_7 => ?_)
      obtain ⟨rfl, hq⟩ := q_7
      rw [if_pos hy] at hq
      subst hq
      refine b_if_eq rfl (fun c_10 => ?_) (fun c_10 => ?_)
      · exact absurd c_10 (by decide)
      · refine b_aload_n rfl rfl ?_
        refine b_iload_n rfl rfl ?_
        refine b_iconst rfl ?_
        refine b_iload_n rfl rfl ?_
        refine b_callV rfl rfl hk_M_fewest rfl rfl rfl (by first | rfl | assumption) rfl (Nat.le_of_ble_eq_true rfl) (q_M_fewest_no hB hs0 hx) (Nat.le_of_ble_eq_true rfl) (fun r_17 D_17 q_17 => ?_)
        obtain ⟨hs9, rfl⟩ := q_17
        refine b_goto rfl ?_
        exact b_ireturn rfl trivial (⟨hs9, rfl⟩)
  · have hv : v_goal N Q x y = -1 := by
      by_cases hx : sp_in x N.2.1
      · obtain ⟨p, hp, rfl⟩ := sp_in_nat hx
        rw [v_goal, sp_at_in hp (by omega), sp_at_out hy]
      · rw [v_goal, sp_at_out hx]
    rw [hv]
    refine b_aload_n rfl rfl ?_
    refine b_iconst rfl ?_
    refine b_putI rfl (by first | rfl | assumption) rfl rfl ⟨rfl, rfl⟩ ?_
    have hB1 := hs_B_0 (v := 0) hB
    have hs0 : hs_sm I J R (hn_u I 188 0 0, J, R) := hs_sm_0
    obtain ⟨I0, h0⟩ : ∃ z, z = hn_u I 188 0 0 := ⟨_, rfl⟩
    rw [← h0] at hB1 hs0 ⊢
    have e0 : ∀ b, b ≠ 188 → I0 b = I b := fun b hb => by rw [h0, hn_u_ne _ _ _ hb]
    have e188 : ∀ j, j ≠ 0 → I0 188 j = I 188 j := fun j hj => by rw [h0, hn_u_eq, va_up, if_neg hj]
    have hB2 := hB1
    obtain ⟨hR, hN, hQ, hfm, hw, hAw⟩ := hB1
    have hM := hs_M_of hR
    have hN0 := hN
    have hQ0 := hQ
    have hw0 := hw
    obtain ⟨⟨hn, n8, hnp, n4, hkn⟩, hL⟩ := hN
    obtain ⟨⟨_, hVs, hVw, hVp, hVh⟩, hVt⟩ := hQ
    simp only [Nat.zero_add] at hVs hVw hVp hVh
    obtain ⟨m1, m4, m5, m6, m9, m10, m11, m12, m14, m15, m16, m17, m20, m21, m22, m23, m25, m27, m28, m29, m30, m31, m32⟩ := id hM
    refine b_aload_n rfl rfl ?_
    refine b_iload_n rfl rfl ?_
    refine b_callV rfl rfl hk_M_isKnot rfl rfl rfl (by first | rfl | assumption) rfl (Nat.le_of_ble_eq_true rfl) (q_M_isKnot hM hn n8) (Nat.le_of_ble_eq_true rfl) (fun r_7 D_7 q_7 => ?_)
    obtain ⟨rfl, hq⟩ := q_7
    rw [if_neg hy] at hq
    subst hq
    refine b_if_eq rfl (fun c_10 => ?_) (fun c_10 => ?_)
    · refine b_iconst rfl ?_
      exact b_ireturn rfl trivial (⟨hs0, rfl⟩)
    · exact absurd rfl c_10
theorem q_M_doze {x : Int32} (hB : hs_B I R N Q) : hn_F 4 hm_M_doze [.ref 188, .int x] (I, J, R) (fun r D' => hs_sm I J R D' ∧ r = some (.int (v_to N Q 8 x))) := by
  have n4' : N.2.1 ≤ 4 := hB.2.1.1.2.2.2.1
  refine hn_F_of _ hk_M_doze rfl (Nat.le_of_ble_eq_true rfl) ?_
  by_cases hx : sp_in x N.2.1
  · obtain ⟨p, hp, rfl⟩ := sp_in_nat hx
    rw [v_to, sp_at_in hp (by omega)]
    refine b_aload_n rfl rfl ?_
    refine b_iconst rfl ?_
    refine b_putI rfl (by first | rfl | assumption) rfl rfl ⟨rfl, rfl⟩ ?_
    have hB1 := hs_B_0 (v := 0) hB
    have hs0 : hs_sm I J R (hn_u I 188 0 0, J, R) := hs_sm_0
    obtain ⟨I0, h0⟩ : ∃ z, z = hn_u I 188 0 0 := ⟨_, rfl⟩
    rw [← h0] at hB1 hs0 ⊢
    have e0 : ∀ b, b ≠ 188 → I0 b = I b := fun b hb => by rw [h0, hn_u_ne _ _ _ hb]
    have e188 : ∀ j, j ≠ 0 → I0 188 j = I 188 j := fun j hj => by rw [h0, hn_u_eq, va_up, if_neg hj]
    have hB2 := hB1
    obtain ⟨hR, hN, hQ, hfm, hw, hAw⟩ := hB1
    have hM := hs_M_of hR
    have hN0 := hN
    have hQ0 := hQ
    have hw0 := hw
    obtain ⟨⟨hn, n8, hnp, n4, hkn⟩, hL⟩ := hN
    obtain ⟨⟨_, hVs, hVw, hVp, hVh⟩, hVt⟩ := hQ
    simp only [Nat.zero_add] at hVs hVw hVp hVh
    obtain ⟨m1, m4, m5, m6, m9, m10, m11, m12, m14, m15, m16, m17, m20, m21, m22, m23, m25, m27, m28, m29, m30, m31, m32⟩ := id hM
    refine b_aload_n rfl rfl ?_
    refine b_iload_n rfl rfl ?_
    refine b_iconst rfl ?_
    refine b_iconst rfl ?_
    refine b_callV rfl rfl hk_M_fewest rfl rfl rfl (by first | rfl | assumption) rfl (Nat.le_of_ble_eq_true rfl) (q_M_fewest (a := 1) (k0 := 0) hB hs0 hp (by omega) (fun h => absurd h (by omega))) (Nat.le_of_ble_eq_true rfl) (fun r_9 D_9 q_9 => ?_)
    obtain ⟨hs9, rfl⟩ := q_9
    exact b_ireturn rfl trivial (⟨hs9, rfl⟩)
  · rw [v_to, sp_at_out hx]
    refine b_aload_n rfl rfl ?_
    refine b_iconst rfl ?_
    refine b_putI rfl (by first | rfl | assumption) rfl rfl ⟨rfl, rfl⟩ ?_
    have hB1 := hs_B_0 (v := 0) hB
    have hs0 : hs_sm I J R (hn_u I 188 0 0, J, R) := hs_sm_0
    obtain ⟨I0, h0⟩ : ∃ z, z = hn_u I 188 0 0 := ⟨_, rfl⟩
    rw [← h0] at hB1 hs0 ⊢
    have e0 : ∀ b, b ≠ 188 → I0 b = I b := fun b hb => by rw [h0, hn_u_ne _ _ _ hb]
    have e188 : ∀ j, j ≠ 0 → I0 188 j = I 188 j := fun j hj => by rw [h0, hn_u_eq, va_up, if_neg hj]
    have hB2 := hB1
    obtain ⟨hR, hN, hQ, hfm, hw, hAw⟩ := hB1
    have hM := hs_M_of hR
    have hN0 := hN
    have hQ0 := hQ
    have hw0 := hw
    obtain ⟨⟨hn, n8, hnp, n4, hkn⟩, hL⟩ := hN
    obtain ⟨⟨_, hVs, hVw, hVp, hVh⟩, hVt⟩ := hQ
    simp only [Nat.zero_add] at hVs hVw hVp hVh
    obtain ⟨m1, m4, m5, m6, m9, m10, m11, m12, m14, m15, m16, m17, m20, m21, m22, m23, m25, m27, m28, m29, m30, m31, m32⟩ := id hM
    refine b_aload_n rfl rfl ?_
    refine b_iload_n rfl rfl ?_
    refine b_iconst rfl ?_
    refine b_iconst rfl ?_
    refine b_callV rfl rfl hk_M_fewest rfl rfl rfl (by first | rfl | assumption) rfl (Nat.le_of_ble_eq_true rfl) (q_M_fewest_no hB hs0 hx) (Nat.le_of_ble_eq_true rfl) (fun r_9 D_9 q_9 => ?_)
    obtain ⟨hs9, rfl⟩ := q_9
    exact b_ireturn rfl trivial (⟨hs9, rfl⟩)
theorem q_M_tiles {x : Int32} (hB : hs_B I R N Q) : hn_F 4 hm_M_tiles [.ref 188, .int x] (I, J, R) (fun r D' => hs_sm I J R D' ∧ r = some (.int (v_to N Q 9 x))) := by
  have n4' : N.2.1 ≤ 4 := hB.2.1.1.2.2.2.1
  refine hn_F_of _ hk_M_tiles rfl (Nat.le_of_ble_eq_true rfl) ?_
  by_cases hx : sp_in x N.2.1
  · obtain ⟨p, hp, rfl⟩ := sp_in_nat hx
    rw [v_to, sp_at_in hp (by omega)]
    refine b_aload_n rfl rfl ?_
    refine b_iconst rfl ?_
    refine b_putI rfl (by first | rfl | assumption) rfl rfl ⟨rfl, rfl⟩ ?_
    have hB1 := hs_B_0 (v := 0) hB
    have hs0 : hs_sm I J R (hn_u I 188 0 0, J, R) := hs_sm_0
    obtain ⟨I0, h0⟩ : ∃ z, z = hn_u I 188 0 0 := ⟨_, rfl⟩
    rw [← h0] at hB1 hs0 ⊢
    have e0 : ∀ b, b ≠ 188 → I0 b = I b := fun b hb => by rw [h0, hn_u_ne _ _ _ hb]
    have e188 : ∀ j, j ≠ 0 → I0 188 j = I 188 j := fun j hj => by rw [h0, hn_u_eq, va_up, if_neg hj]
    have hB2 := hB1
    obtain ⟨hR, hN, hQ, hfm, hw, hAw⟩ := hB1
    have hM := hs_M_of hR
    have hN0 := hN
    have hQ0 := hQ
    have hw0 := hw
    obtain ⟨⟨hn, n8, hnp, n4, hkn⟩, hL⟩ := hN
    obtain ⟨⟨_, hVs, hVw, hVp, hVh⟩, hVt⟩ := hQ
    simp only [Nat.zero_add] at hVs hVw hVp hVh
    obtain ⟨m1, m4, m5, m6, m9, m10, m11, m12, m14, m15, m16, m17, m20, m21, m22, m23, m25, m27, m28, m29, m30, m31, m32⟩ := id hM
    refine b_aload_n rfl rfl ?_
    refine b_iload_n rfl rfl ?_
    refine b_iconst rfl ?_
    refine b_iconst rfl ?_
    refine b_callV rfl rfl hk_M_fewest rfl rfl rfl (by first | rfl | assumption) rfl (Nat.le_of_ble_eq_true rfl) (q_M_fewest (a := 2) (k0 := 0) hB hs0 hp (by omega) (fun h => absurd h (by omega))) (Nat.le_of_ble_eq_true rfl) (fun r_9 D_9 q_9 => ?_)
    obtain ⟨hs9, rfl⟩ := q_9
    exact b_ireturn rfl trivial (⟨hs9, rfl⟩)
  · rw [v_to, sp_at_out hx]
    refine b_aload_n rfl rfl ?_
    refine b_iconst rfl ?_
    refine b_putI rfl (by first | rfl | assumption) rfl rfl ⟨rfl, rfl⟩ ?_
    have hB1 := hs_B_0 (v := 0) hB
    have hs0 : hs_sm I J R (hn_u I 188 0 0, J, R) := hs_sm_0
    obtain ⟨I0, h0⟩ : ∃ z, z = hn_u I 188 0 0 := ⟨_, rfl⟩
    rw [← h0] at hB1 hs0 ⊢
    have e0 : ∀ b, b ≠ 188 → I0 b = I b := fun b hb => by rw [h0, hn_u_ne _ _ _ hb]
    have e188 : ∀ j, j ≠ 0 → I0 188 j = I 188 j := fun j hj => by rw [h0, hn_u_eq, va_up, if_neg hj]
    have hB2 := hB1
    obtain ⟨hR, hN, hQ, hfm, hw, hAw⟩ := hB1
    have hM := hs_M_of hR
    have hN0 := hN
    have hQ0 := hQ
    have hw0 := hw
    obtain ⟨⟨hn, n8, hnp, n4, hkn⟩, hL⟩ := hN
    obtain ⟨⟨_, hVs, hVw, hVp, hVh⟩, hVt⟩ := hQ
    simp only [Nat.zero_add] at hVs hVw hVp hVh
    obtain ⟨m1, m4, m5, m6, m9, m10, m11, m12, m14, m15, m16, m17, m20, m21, m22, m23, m25, m27, m28, m29, m30, m31, m32⟩ := id hM
    refine b_aload_n rfl rfl ?_
    refine b_iload_n rfl rfl ?_
    refine b_iconst rfl ?_
    refine b_iconst rfl ?_
    refine b_callV rfl rfl hk_M_fewest rfl rfl rfl (by first | rfl | assumption) rfl (Nat.le_of_ble_eq_true rfl) (q_M_fewest_no hB hs0 hx) (Nat.le_of_ble_eq_true rfl) (fun r_9 D_9 q_9 => ?_)
    obtain ⟨hs9, rfl⟩ := q_9
    exact b_ireturn rfl trivial (⟨hs9, rfl⟩)
end HNmgoal
