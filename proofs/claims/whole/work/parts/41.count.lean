section HNcount
variable {I I' : Nat → Nat → Int32} {J J' : Nat → Nat → Int64} {R : Nat → Nat → Option Nat} {t : Nat} {N : sp_N} {Q Q' : sp_Q} {U : sp_U}
theorem hs_b8_w {n np : Nat} (hw : hs_Qw n np Q) (h8 : n ≤ 8) : hs_b8 (qS Q) := by
  intro k hk
  by_cases h : k < n
  · obtain ⟨i, hi, e⟩ := hw.2.1 k h
    exact ⟨⟨i, by have := (pw8 h8).2; omega⟩, e⟩
  · exact ⟨⟨0, by omega⟩, hw.2.2.1 k (by omega)⟩
theorem sp_pop_0 : sp_pop 0 = 0 := by decide +kernel
theorem sp_cnt_n {s : Nat → Int32} {n : Nat} (h : ∀ k, n ≤ k → s k = 0) (hn : n ≤ 8) : sp_cnt s = sp_up (fun k a => a + sp_pop (s k)) 0 n := by
  have key : ∀ m, sp_up (fun k a => a + sp_pop (s k)) 0 (n + m) = sp_up (fun k a => a + sp_pop (s k)) 0 n := by
    intro m
    induction m with
    | zero => rfl
    | succ m ih =>
      show sp_up (fun k a => a + sp_pop (s k)) 0 (n + m) + sp_pop (s (n + m)) = _
      rw [ih, h (n + m) (by omega), sp_pop_0, Int32.add_zero]
  have := key (8 - n)
  rw [show n + (8 - n) = 8 by omega] at this
  exact this
theorem q_M_stringsOfAll (hB : hs_B I R N Q) : hn_F 1 hm_M_stringsOfAll [.ref 188] (I, J, R) (fun r D' => D' = (I, J, R) ∧ r = some (.int (sp_cnt (qS Q)))) := by
  have hB0 := hB
  obtain ⟨hR, hN, hQ, hfm, hw, hAw⟩ := hB
  have hM := hs_M_of hR
  have hN0 := hN
  have hQ0 := hQ
  have hw0 := hw
  obtain ⟨⟨hn, n8, hnp, n4, hkn⟩, hL⟩ := hN
  obtain ⟨⟨_, hVs, hVw, hVp, hVh⟩, hVt⟩ := hQ
  simp only [Nat.zero_add] at hVs hVw hVp hVh
  obtain ⟨m1, m4, m5, m6, m9, m10, m11, m12, m14, m15, m16, m17, m20, m21, m22, m23, m25, m27, m28, m29, m30, m31, m32⟩ := id hM
  rw [sp_cnt_n (n := N.1) hw0.2.2.1 n8]
  refine hn_F_of _ hk_M_stringsOfAll rfl (Nat.le_of_ble_eq_true rfl) ?_
  refine b_iconst rfl ?_
  refine b_istore_n rfl (Nat.le_of_ble_eq_true rfl) ?_
  refine b_iconst rfl ?_
  refine b_istore_n rfl (Nat.le_of_ble_eq_true rfl) ?_
  refine b_eq (sp_ind N.1 (fun k => hn_B 1 hm_M_stringsOfAll _ 4 [.ref 188, .int (sp_up (fun k a => a + sp_pop (qS Q k)) 0 k), .int (nI k)] [] (I, J, R)) ?_ ?_) (by rw [nI_0]; rfl) rfl rfl
  · refine b_iload_n rfl rfl ?_
    refine b_aload_n rfl rfl ?_
    refine b_callV rfl rfl hk_M_knots rfl rfl rfl (by first | rfl | assumption) rfl (Nat.le_of_ble_eq_true rfl) (q_M_knots hM hn) (Nat.le_of_ble_eq_true rfl) (fun r_6 D_6 q_6 => ?_)
    obtain ⟨rfl, rfl⟩ := q_6
    refine b_icmp_ge rfl (fun c_9 => ?_) (fun c_9 => ?_)
    · refine b_iload_n rfl rfl ?_
      exact b_ireturn rfl trivial (⟨rfl, rfl⟩)
    · exact absurd (nI_le (Nat.le_refl _) (by omega)) c_9
  · intro p hp ih
    refine b_iload_n rfl rfl ?_
    refine b_aload_n rfl rfl ?_
    refine b_callV rfl rfl hk_M_knots rfl rfl rfl (by first | rfl | assumption) rfl (Nat.le_of_ble_eq_true rfl) (q_M_knots hM hn) (Nat.le_of_ble_eq_true rfl) (fun r_6 D_6 q_6 => ?_)
    obtain ⟨rfl, rfl⟩ := q_6
    refine b_icmp_ge rfl (fun c_9 => ?_) (fun c_9 => ?_)
    · exact absurd c_9 (nI_ge hp (by omega))
    · refine b_iload_n rfl rfl ?_
      refine b_aload_n rfl rfl ?_
      refine b_iload_n rfl rfl ?_
      refine b_callV rfl rfl hk_M_stringsFrom rfl rfl rfl (by first | rfl | assumption) rfl (Nat.le_of_ble_eq_true rfl) (q_M_stringsFrom hB0 (show p < 8 by omega)) (Nat.le_of_ble_eq_true rfl) (fun r_15 D_15 q_15 => ?_)
      obtain ⟨rfl, rfl⟩ := q_15
      refine b_callS rfl rfl hk_M_bits rfl rfl rfl (Nat.le_of_ble_eq_true rfl) (q_M_bits) (Nat.le_of_ble_eq_true rfl) (fun r_18 D_18 q_18 => ?_)
      obtain ⟨rfl, rfl⟩ := q_18
      refine b_iadd rfl ?_
      refine b_istore_n rfl (Nat.le_of_ble_eq_true rfl) ?_
      refine b_iinc rfl rfl (Nat.le_of_ble_eq_true rfl) ?_
      refine b_goto rfl ?_
      exact b_eq ih (by simp only [nI_succ, sp_up]; rfl) rfl rfl
def v_count (N : sp_N) (Q : sp_Q) (sv len nl tl : Nat) (w : Int32) : Int32 := if w = 0 then nI N.1 else if w = 1 then sp_cnt (qS Q) else if w = 2 then nI N.2.1 else if w = 3 then qT Q else if w = 4 then sp_lying (qP Q) N.2.1 else if w = 5 then sp_awake (qW Q) (qP Q) N.2.1 else if w = 6 then sp_wills (qW Q) N.2.1 else if w = 7 then nI nl else if w = 8 then nI sv else if w = 9 then nI len else if w = 10 then nI tl else -1
theorem q_X_count {w : Int32} {sv len nl tl l : Nat} (hA : hs_A I R t N Q) (hv : I 135 1 = nI sv) (hp : I 0 9 = nI len) (hl : R 0 4 = some l) (hlk : hn_kind l = (0, 4)) (hnl : I l 3 = nI nl) (htl : I 1 1 = nI tl) : hn_F 3 hm_X_count [.ref 0, .int w] (I, J, R) (fun r D' => hs_sx t I J R D' ∧ r = some (.int (v_count N Q sv len nl tl w))) := by
  have hA0 := hA
  obtain ⟨hR, r2, ht, hN, hX, hw, hz, hAw⟩ := hA
  have hN0 := hN
  have hX0 := hX
  have hw0 := hw
  obtain ⟨n0, n8, n4, nk, nh, na, hc, ncd⟩ := hN
  obtain ⟨x1, x2, x3, x4, x5, x6, x7⟩ := hX
  obtain ⟨r6, r7, r8, r11, r12, r13, r14, r15, r16, r17, r18⟩ := hs_x0 hR
  have hSt := hs_St_of hR (show 44 ∈ hs_sc by decide)
  have hNt := hs_Net_of hR ht
  obtain ⟨_, sk0, sk1, sk2, sk3, sk4, g0, g1, g2, g3⟩ := id hSt
  obtain ⟨tt5, tn0, tn1, tn2, tn3, tn4, tn5, tn6, tn7, tn8, tn9, tn10, ts1, ts2, ts3, ts4, ts5, ts7, ts8, tl0, tl2, tl6, tl7⟩ := id hNt
  have r00 : R 0 0 = some 1 := hR (0, 0, 1) (by decide +kernel)
  have hb8 : hs_b8 (I (44 + 1)) := by rw [x1]; exact hs_b8_w hw0 n8
  refine hn_F_of _ hk_X_count rfl (Nat.le_of_ble_eq_true rfl) ?_
  rw [v_count]
  by_cases w0 : w = 0
  · subst w0
    refine b_iload_n rfl rfl ?_
    refine b_tsw (q := 60) rfl rfl ?_
    refine b_aload_n rfl rfl ?_
    refine b_getR rfl (by first | rfl | assumption) rfl (by assumption) ?_
    refine b_getI rfl (by first | rfl | assumption) rfl ?_
    rw [n0]
    exact b_ireturn rfl trivial (⟨hs_sx_r hz, rfl⟩)
  rw [if_neg w0]
  by_cases w1 : w = 1
  · subst w1
    refine b_iload_n rfl rfl ?_
    refine b_tsw (q := 68) rfl rfl ?_
    refine b_aload_n rfl rfl ?_
    refine b_getR rfl (by first | rfl | assumption) rfl (by assumption) ?_
    refine b_getR rfl (by first | rfl | assumption) rfl (by assumption) ?_
    refine b_callS rfl rfl hk_Ways_countAll rfl rfl rfl (Nat.le_of_ble_eq_true rfl) (q_Ways_countAll rfl hb8) (Nat.le_of_ble_eq_true rfl) (fun r_75 D_75 q_75 => ?_)
    obtain ⟨rfl, hq⟩ := q_75
    rw [x1] at hq
    subst hq
    exact b_ireturn rfl trivial (⟨hs_sx_r hz, rfl⟩)
  rw [if_neg w1]
  by_cases w2 : w = 2
  · subst w2
    refine b_iload_n rfl rfl ?_
    refine b_tsw (q := 79) rfl rfl ?_
    refine b_aload_n rfl rfl ?_
    refine b_getR rfl (by first | rfl | assumption) rfl (by assumption) ?_
    refine b_getI rfl (by first | rfl | assumption) rfl ?_
    rw [x5]
    exact b_ireturn rfl trivial (⟨hs_sx_r hz, rfl⟩)
  rw [if_neg w2]
  by_cases w3 : w = 3
  · subst w3
    refine b_iload_n rfl rfl ?_
    refine b_tsw (q := 87) rfl rfl ?_
    refine b_aload_n rfl rfl ?_
    refine b_getR rfl (by first | rfl | assumption) rfl (by assumption) ?_
    refine b_getI rfl (by first | rfl | assumption) rfl ?_
    rw [x6]
    exact b_ireturn rfl trivial (⟨hs_sx_r hz, rfl⟩)
  rw [if_neg w3]
  by_cases w4 : w = 4
  · subst w4
    refine b_iload_n rfl rfl ?_
    refine b_tsw (q := 95) rfl rfl ?_
    refine b_aload_n rfl rfl ?_
    refine b_getR rfl (by first | rfl | assumption) rfl (by assumption) ?_
    refine b_callV rfl rfl hk_State_lying rfl rfl rfl (by first | rfl | assumption) rfl (Nat.le_of_ble_eq_true rfl) (q_State_lying hSt x5 n4) (Nat.le_of_ble_eq_true rfl) (fun r_99 D_99 q_99 => ?_)
    obtain ⟨rfl, hq⟩ := q_99
    rw [P3_lying x3] at hq
    subst hq
    exact b_ireturn rfl trivial (⟨hs_sx_r hz, rfl⟩)
  rw [if_neg w4]
  by_cases w5 : w = 5
  · subst w5
    refine b_iload_n rfl rfl ?_
    refine b_tsw (q := 103) rfl rfl ?_
    refine b_aload_n rfl rfl ?_
    refine b_getR rfl (by first | rfl | assumption) rfl (by assumption) ?_
    refine b_callV rfl rfl hk_State_awake rfl rfl rfl (by first | rfl | assumption) rfl (Nat.le_of_ble_eq_true rfl) (q_State_awake hSt x5 n4) (Nat.le_of_ble_eq_true rfl) (fun r_107 D_107 q_107 => ?_)
    obtain ⟨rfl, hq⟩ := q_107
    rw [x2, P3_awake x3] at hq
    subst hq
    exact b_ireturn rfl trivial (⟨hs_sx_r hz, rfl⟩)
  rw [if_neg w5]
  by_cases w6 : w = 6
  · subst w6
    refine b_iload_n rfl rfl ?_
    refine b_tsw (q := 111) rfl rfl ?_
    refine b_aload_n rfl rfl ?_
    refine b_getR rfl (by first | rfl | assumption) rfl (by assumption) ?_
    refine b_callV rfl rfl hk_State_willOfAll rfl rfl rfl (by first | rfl | assumption) rfl (Nat.le_of_ble_eq_true rfl) (q_State_willOfAll hSt x5 n4) (Nat.le_of_ble_eq_true rfl) (fun r_115 D_115 q_115 => ?_)
    obtain ⟨rfl, hq⟩ := q_115
    rw [x2] at hq
    subst hq
    exact b_ireturn rfl trivial (⟨hs_sx_r hz, rfl⟩)
  rw [if_neg w6]
  by_cases w7 : w = 7
  · subst w7
    refine b_iload_n rfl rfl ?_
    refine b_tsw (q := 119) rfl rfl ?_
    refine b_aload_n rfl rfl ?_
    refine b_getR rfl (by first | rfl | assumption) rfl (by assumption) ?_
    refine b_getI rfl (by first | rfl | assumption) rfl ?_
    rw [hnl]
    exact b_ireturn rfl trivial (⟨hs_sx_r hz, rfl⟩)
  rw [if_neg w7]
  by_cases w8 : w = 8
  · subst w8
    refine b_iload_n rfl rfl ?_
    refine b_tsw (q := 127) rfl rfl ?_
    refine b_aload_n rfl rfl ?_
    refine b_getR rfl (by first | rfl | assumption) rfl (by assumption) ?_
    refine b_getI rfl (by first | rfl | assumption) rfl ?_
    rw [hv]
    exact b_ireturn rfl trivial (⟨hs_sx_r hz, rfl⟩)
  rw [if_neg w8]
  by_cases w9 : w = 9
  · subst w9
    refine b_iload_n rfl rfl ?_
    refine b_tsw (q := 135) rfl rfl ?_
    refine b_aload_n rfl rfl ?_
    refine b_getI rfl (by first | rfl | assumption) rfl ?_
    rw [hp]
    exact b_ireturn rfl trivial (⟨hs_sx_r hz, rfl⟩)
  rw [if_neg w9]
  by_cases w10 : w = 10
  · subst w10
    refine b_iload_n rfl rfl ?_
    refine b_tsw (q := 140) rfl rfl ?_
    refine b_aload_n rfl rfl ?_
    refine b_getR rfl (by first | rfl | assumption) rfl (by assumption) ?_
    refine b_getI rfl (by first | rfl | assumption) rfl ?_
    rw [htl]
    exact b_ireturn rfl trivial (⟨hs_sx_r hz, rfl⟩)
  rw [if_neg w10]
  have ho : w.toInt < 0 ∨ (10 : Int) < w.toInt := hi_out (w := w) (m := 10) (fun j hj => by rcases (show j = 0 ∨ j = 1 ∨ j = 2 ∨ j = 3 ∨ j = 4 ∨ j = 5 ∨ j = 6 ∨ j = 7 ∨ j = 8 ∨ j = 9 ∨ j = 10 by omega) with rfl | rfl | rfl | rfl | rfl | rfl | rfl | rfl | rfl | rfl | rfl <;> assumption)
  refine b_iload_n rfl rfl ?_
  refine b_tsw (q := 148) rfl (by rw [if_pos ho]; rfl) ?_
  refine b_iconst rfl ?_
  exact b_ireturn rfl trivial (⟨hs_sx_r hz, rfl⟩)
theorem q_M_count {w : Int32} {sv len nl tl : Nat} (hB : hs_B I R N Q) (hv : I 204 21 = nI sv) (hp : I 188 24 = nI len) (hnl : I 201 0 = nI nl) (htl : I 188 2 = nI tl) : hn_F 3 hm_M_count [.ref 188, .int w] (I, J, R) (fun r D' => hs_sm I J R D' ∧ r = some (.int (v_count N Q sv len nl tl w))) := by
  refine hn_F_of _ hk_M_count rfl (Nat.le_of_ble_eq_true rfl) ?_
  rw [v_count]
  by_cases w0 : w = 0
  · subst w0
    refine b_aload_n rfl rfl ?_
    refine b_iconst rfl ?_
    refine b_putI rfl (by first | rfl | assumption) rfl rfl ⟨rfl, rfl⟩ ?_
    have hB1 := hs_B_0 (v := 0) hB
    have hs0 : hs_sm I J R (hn_u I 188 0 0, J, R) := hs_sm_0
    obtain ⟨I0, h0⟩ : ∃ z, z = hn_u I 188 0 0 := ⟨_, rfl⟩
    rw [← h0] at hB1 hs0 ⊢
    have e0 : ∀ b, b ≠ 188 → I0 b = I b := fun b hb => by rw [h0, hn_u_ne _ _ _ hb]
    have e188 : ∀ j, j ≠ 0 → I0 188 j = I 188 j := fun j hj => by rw [h0, hn_u_eq, va_up, if_neg hj]
    have hB2 := hB1
    obtain ⟨hR, hN, hQ, hfm, hw, hAw⟩ := hB1
    have hM := hs_M_of hR
    have hN0 := hN
    have hQ0 := hQ
    have hw0 := hw
    obtain ⟨⟨hn, n8, hnp, n4, hkn⟩, hL⟩ := hN
    obtain ⟨⟨_, hVs, hVw, hVp, hVh⟩, hVt⟩ := hQ
    simp only [Nat.zero_add] at hVs hVw hVp hVh
    obtain ⟨m1, m4, m5, m6, m9, m10, m11, m12, m14, m15, m16, m17, m20, m21, m22, m23, m25, m27, m28, m29, m30, m31, m32⟩ := id hM
    refine b_iload_n rfl rfl ?_
    refine b_tsw (q := 64) rfl rfl ?_
    refine b_aload_n rfl rfl ?_
    refine b_callV rfl rfl hk_M_knots rfl rfl rfl (by first | rfl | assumption) rfl (Nat.le_of_ble_eq_true rfl) (q_M_knots hM hn) (Nat.le_of_ble_eq_true rfl) (fun r_65 D_65 q_65 => ?_)
    obtain ⟨rfl, rfl⟩ := q_65
    exact b_ireturn rfl trivial (⟨hs0, rfl⟩)
  rw [if_neg w0]
  by_cases w1 : w = 1
  · subst w1
    refine b_aload_n rfl rfl ?_
    refine b_iconst rfl ?_
    refine b_putI rfl (by first | rfl | assumption) rfl rfl ⟨rfl, rfl⟩ ?_
    have hB1 := hs_B_0 (v := 0) hB
    have hs0 : hs_sm I J R (hn_u I 188 0 0, J, R) := hs_sm_0
    obtain ⟨I0, h0⟩ : ∃ z, z = hn_u I 188 0 0 := ⟨_, rfl⟩
    rw [← h0] at hB1 hs0 ⊢
    have e0 : ∀ b, b ≠ 188 → I0 b = I b := fun b hb => by rw [h0, hn_u_ne _ _ _ hb]
    have e188 : ∀ j, j ≠ 0 → I0 188 j = I 188 j := fun j hj => by rw [h0, hn_u_eq, va_up, if_neg hj]
    have hB2 := hB1
    obtain ⟨hR, hN, hQ, hfm, hw, hAw⟩ := hB1
    have hM := hs_M_of hR
    have hN0 := hN
    have hQ0 := hQ
    have hw0 := hw
    obtain ⟨⟨hn, n8, hnp, n4, hkn⟩, hL⟩ := hN
    obtain ⟨⟨_, hVs, hVw, hVp, hVh⟩, hVt⟩ := hQ
    simp only [Nat.zero_add] at hVs hVw hVp hVh
    obtain ⟨m1, m4, m5, m6, m9, m10, m11, m12, m14, m15, m16, m17, m20, m21, m22, m23, m25, m27, m28, m29, m30, m31, m32⟩ := id hM
    refine b_iload_n rfl rfl ?_
    refine b_tsw (q := 69) rfl rfl ?_
    refine b_aload_n rfl rfl ?_
    refine b_callV rfl rfl hk_M_stringsOfAll rfl rfl rfl (by first | rfl | assumption) rfl (Nat.le_of_ble_eq_true rfl) (q_M_stringsOfAll hB2) (Nat.le_of_ble_eq_true rfl) (fun r_70 D_70 q_70 => ?_)
    obtain ⟨rfl, rfl⟩ := q_70
    exact b_ireturn rfl trivial (⟨hs0, rfl⟩)
  rw [if_neg w1]
  by_cases w2 : w = 2
  · subst w2
    refine b_aload_n rfl rfl ?_
    refine b_iconst rfl ?_
    refine b_putI rfl (by first | rfl | assumption) rfl rfl ⟨rfl, rfl⟩ ?_
    have hB1 := hs_B_0 (v := 0) hB
    have hs0 : hs_sm I J R (hn_u I 188 0 0, J, R) := hs_sm_0
    obtain ⟨I0, h0⟩ : ∃ z, z = hn_u I 188 0 0 := ⟨_, rfl⟩
    rw [← h0] at hB1 hs0 ⊢
    have e0 : ∀ b, b ≠ 188 → I0 b = I b := fun b hb => by rw [h0, hn_u_ne _ _ _ hb]
    have e188 : ∀ j, j ≠ 0 → I0 188 j = I 188 j := fun j hj => by rw [h0, hn_u_eq, va_up, if_neg hj]
    have hB2 := hB1
    obtain ⟨hR, hN, hQ, hfm, hw, hAw⟩ := hB1
    have hM := hs_M_of hR
    have hN0 := hN
    have hQ0 := hQ
    have hw0 := hw
    obtain ⟨⟨hn, n8, hnp, n4, hkn⟩, hL⟩ := hN
    obtain ⟨⟨_, hVs, hVw, hVp, hVh⟩, hVt⟩ := hQ
    simp only [Nat.zero_add] at hVs hVw hVp hVh
    obtain ⟨m1, m4, m5, m6, m9, m10, m11, m12, m14, m15, m16, m17, m20, m21, m22, m23, m25, m27, m28, m29, m30, m31, m32⟩ := id hM
    refine b_iload_n rfl rfl ?_
    refine b_tsw (q := 74) rfl rfl ?_
    refine b_aload_n rfl rfl ?_
    refine b_callV rfl rfl hk_M_persons rfl rfl rfl (by first | rfl | assumption) rfl (Nat.le_of_ble_eq_true rfl) (q_M_persons hM hnp) (Nat.le_of_ble_eq_true rfl) (fun r_75 D_75 q_75 => ?_)
    obtain ⟨rfl, rfl⟩ := q_75
    exact b_ireturn rfl trivial (⟨hs0, rfl⟩)
  rw [if_neg w2]
  by_cases w3 : w = 3
  · subst w3
    refine b_aload_n rfl rfl ?_
    refine b_iconst rfl ?_
    refine b_putI rfl (by first | rfl | assumption) rfl rfl ⟨rfl, rfl⟩ ?_
    have hB1 := hs_B_0 (v := 0) hB
    have hs0 : hs_sm I J R (hn_u I 188 0 0, J, R) := hs_sm_0
    obtain ⟨I0, h0⟩ : ∃ z, z = hn_u I 188 0 0 := ⟨_, rfl⟩
    rw [← h0] at hB1 hs0 ⊢
    have e0 : ∀ b, b ≠ 188 → I0 b = I b := fun b hb => by rw [h0, hn_u_ne _ _ _ hb]
    have e188 : ∀ j, j ≠ 0 → I0 188 j = I 188 j := fun j hj => by rw [h0, hn_u_eq, va_up, if_neg hj]
    have hB2 := hB1
    obtain ⟨hR, hN, hQ, hfm, hw, hAw⟩ := hB1
    have hM := hs_M_of hR
    have hN0 := hN
    have hQ0 := hQ
    have hw0 := hw
    obtain ⟨⟨hn, n8, hnp, n4, hkn⟩, hL⟩ := hN
    obtain ⟨⟨_, hVs, hVw, hVp, hVh⟩, hVt⟩ := hQ
    simp only [Nat.zero_add] at hVs hVw hVp hVh
    obtain ⟨m1, m4, m5, m6, m9, m10, m11, m12, m14, m15, m16, m17, m20, m21, m22, m23, m25, m27, m28, m29, m30, m31, m32⟩ := id hM
    refine b_iload_n rfl rfl ?_
    refine b_tsw (q := 79) rfl rfl ?_
    refine b_aload_n rfl rfl ?_
    refine b_getR rfl (by first | rfl | assumption) rfl (by assumption) ?_
    refine b_iconst rfl ?_
    refine b_iaload rfl (by first | rfl | assumption) (by first | assumption | exact nI_toInt (by omega) | exact hi_l0 | exact hi_l1 | exact hi_l2 | exact hi_l3 | exact hi_l4 | exact hi_l5 | exact hi_l6) (by omega) ?_
    rw [show I0 204 0 = qT Q from hVt]
    exact b_ireturn rfl trivial (⟨hs0, rfl⟩)
  rw [if_neg w3]
  by_cases w4 : w = 4
  · subst w4
    refine b_aload_n rfl rfl ?_
    refine b_iconst rfl ?_
    refine b_putI rfl (by first | rfl | assumption) rfl rfl ⟨rfl, rfl⟩ ?_
    have hB1 := hs_B_0 (v := 0) hB
    have hs0 : hs_sm I J R (hn_u I 188 0 0, J, R) := hs_sm_0
    obtain ⟨I0, h0⟩ : ∃ z, z = hn_u I 188 0 0 := ⟨_, rfl⟩
    rw [← h0] at hB1 hs0 ⊢
    have e0 : ∀ b, b ≠ 188 → I0 b = I b := fun b hb => by rw [h0, hn_u_ne _ _ _ hb]
    have e188 : ∀ j, j ≠ 0 → I0 188 j = I 188 j := fun j hj => by rw [h0, hn_u_eq, va_up, if_neg hj]
    have hB2 := hB1
    obtain ⟨hR, hN, hQ, hfm, hw, hAw⟩ := hB1
    have hM := hs_M_of hR
    have hN0 := hN
    have hQ0 := hQ
    have hw0 := hw
    obtain ⟨⟨hn, n8, hnp, n4, hkn⟩, hL⟩ := hN
    obtain ⟨⟨_, hVs, hVw, hVp, hVh⟩, hVt⟩ := hQ
    simp only [Nat.zero_add] at hVs hVw hVp hVh
    obtain ⟨m1, m4, m5, m6, m9, m10, m11, m12, m14, m15, m16, m17, m20, m21, m22, m23, m25, m27, m28, m29, m30, m31, m32⟩ := id hM
    refine b_iload_n rfl rfl ?_
    refine b_tsw (q := 86) rfl rfl ?_
    refine b_aload_n rfl rfl ?_
    refine b_iconst rfl ?_
    refine b_callV rfl rfl hk_M_lying rfl rfl rfl (by first | rfl | assumption) rfl (Nat.le_of_ble_eq_true rfl) (q_M_lying hM hQ0.1 n8 hw0.1 hnp n4 rfl) (Nat.le_of_ble_eq_true rfl) (fun r_88 D_88 q_88 => ?_)
    obtain ⟨rfl, rfl⟩ := q_88
    exact b_ireturn rfl trivial (⟨hs0, rfl⟩)
  rw [if_neg w4]
  by_cases w5 : w = 5
  · subst w5
    refine b_aload_n rfl rfl ?_
    refine b_iconst rfl ?_
    refine b_putI rfl (by first | rfl | assumption) rfl rfl ⟨rfl, rfl⟩ ?_
    have hB1 := hs_B_0 (v := 0) hB
    have hs0 : hs_sm I J R (hn_u I 188 0 0, J, R) := hs_sm_0
    obtain ⟨I0, h0⟩ : ∃ z, z = hn_u I 188 0 0 := ⟨_, rfl⟩
    rw [← h0] at hB1 hs0 ⊢
    have e0 : ∀ b, b ≠ 188 → I0 b = I b := fun b hb => by rw [h0, hn_u_ne _ _ _ hb]
    have e188 : ∀ j, j ≠ 0 → I0 188 j = I 188 j := fun j hj => by rw [h0, hn_u_eq, va_up, if_neg hj]
    have hB2 := hB1
    obtain ⟨hR, hN, hQ, hfm, hw, hAw⟩ := hB1
    have hM := hs_M_of hR
    have hN0 := hN
    have hQ0 := hQ
    have hw0 := hw
    obtain ⟨⟨hn, n8, hnp, n4, hkn⟩, hL⟩ := hN
    obtain ⟨⟨_, hVs, hVw, hVp, hVh⟩, hVt⟩ := hQ
    simp only [Nat.zero_add] at hVs hVw hVp hVh
    obtain ⟨m1, m4, m5, m6, m9, m10, m11, m12, m14, m15, m16, m17, m20, m21, m22, m23, m25, m27, m28, m29, m30, m31, m32⟩ := id hM
    refine b_iload_n rfl rfl ?_
    refine b_tsw (q := 92) rfl rfl ?_
    refine b_aload_n rfl rfl ?_
    refine b_iconst rfl ?_
    refine b_callV rfl rfl hk_M_awake rfl rfl rfl (by first | rfl | assumption) rfl (Nat.le_of_ble_eq_true rfl) (q_M_awake hM hQ0.1 n8 hw0.1 hnp n4 rfl) (Nat.le_of_ble_eq_true rfl) (fun r_94 D_94 q_94 => ?_)
    obtain ⟨rfl, rfl⟩ := q_94
    exact b_ireturn rfl trivial (⟨hs0, rfl⟩)
  rw [if_neg w5]
  by_cases w6 : w = 6
  · subst w6
    refine b_aload_n rfl rfl ?_
    refine b_iconst rfl ?_
    refine b_putI rfl (by first | rfl | assumption) rfl rfl ⟨rfl, rfl⟩ ?_
    have hB1 := hs_B_0 (v := 0) hB
    have hs0 : hs_sm I J R (hn_u I 188 0 0, J, R) := hs_sm_0
    obtain ⟨I0, h0⟩ : ∃ z, z = hn_u I 188 0 0 := ⟨_, rfl⟩
    rw [← h0] at hB1 hs0 ⊢
    have e0 : ∀ b, b ≠ 188 → I0 b = I b := fun b hb => by rw [h0, hn_u_ne _ _ _ hb]
    have e188 : ∀ j, j ≠ 0 → I0 188 j = I 188 j := fun j hj => by rw [h0, hn_u_eq, va_up, if_neg hj]
    have hB2 := hB1
    obtain ⟨hR, hN, hQ, hfm, hw, hAw⟩ := hB1
    have hM := hs_M_of hR
    have hN0 := hN
    have hQ0 := hQ
    have hw0 := hw
    obtain ⟨⟨hn, n8, hnp, n4, hkn⟩, hL⟩ := hN
    obtain ⟨⟨_, hVs, hVw, hVp, hVh⟩, hVt⟩ := hQ
    simp only [Nat.zero_add] at hVs hVw hVp hVh
    obtain ⟨m1, m4, m5, m6, m9, m10, m11, m12, m14, m15, m16, m17, m20, m21, m22, m23, m25, m27, m28, m29, m30, m31, m32⟩ := id hM
    refine b_iload_n rfl rfl ?_
    refine b_tsw (q := 98) rfl rfl ?_
    refine b_aload_n rfl rfl ?_
    refine b_iconst rfl ?_
    refine b_callV rfl rfl hk_M_willOfAll rfl rfl rfl (by first | rfl | assumption) rfl (Nat.le_of_ble_eq_true rfl) (q_M_willOfAll hM hQ0.1 hnp n4 rfl) (Nat.le_of_ble_eq_true rfl) (fun r_100 D_100 q_100 => ?_)
    obtain ⟨rfl, rfl⟩ := q_100
    exact b_ireturn rfl trivial (⟨hs0, rfl⟩)
  rw [if_neg w6]
  by_cases w7 : w = 7
  · subst w7
    refine b_aload_n rfl rfl ?_
    refine b_iconst rfl ?_
    refine b_putI rfl (by first | rfl | assumption) rfl rfl ⟨rfl, rfl⟩ ?_
    have hB1 := hs_B_0 (v := 0) hB
    have hs0 : hs_sm I J R (hn_u I 188 0 0, J, R) := hs_sm_0
    obtain ⟨I0, h0⟩ : ∃ z, z = hn_u I 188 0 0 := ⟨_, rfl⟩
    rw [← h0] at hB1 hs0 ⊢
    have e0 : ∀ b, b ≠ 188 → I0 b = I b := fun b hb => by rw [h0, hn_u_ne _ _ _ hb]
    have e188 : ∀ j, j ≠ 0 → I0 188 j = I 188 j := fun j hj => by rw [h0, hn_u_eq, va_up, if_neg hj]
    have hB2 := hB1
    obtain ⟨hR, hN, hQ, hfm, hw, hAw⟩ := hB1
    have hM := hs_M_of hR
    have hN0 := hN
    have hQ0 := hQ
    have hw0 := hw
    obtain ⟨⟨hn, n8, hnp, n4, hkn⟩, hL⟩ := hN
    obtain ⟨⟨_, hVs, hVw, hVp, hVh⟩, hVt⟩ := hQ
    simp only [Nat.zero_add] at hVs hVw hVp hVh
    obtain ⟨m1, m4, m5, m6, m9, m10, m11, m12, m14, m15, m16, m17, m20, m21, m22, m23, m25, m27, m28, m29, m30, m31, m32⟩ := id hM
    refine b_iload_n rfl rfl ?_
    refine b_tsw (q := 104) rfl rfl ?_
    refine b_aload_n rfl rfl ?_
    refine b_getR rfl (by first | rfl | assumption) rfl (by assumption) ?_
    refine b_iconst rfl ?_
    refine b_iaload rfl (by first | rfl | assumption) (by first | assumption | exact nI_toInt (by omega) | exact hi_l0 | exact hi_l1 | exact hi_l2 | exact hi_l3 | exact hi_l4 | exact hi_l5 | exact hi_l6) (by omega) ?_
    rw [e0 201 (by omega), hnl]
    exact b_ireturn rfl trivial (⟨hs0, rfl⟩)
  rw [if_neg w7]
  by_cases w8 : w = 8
  · subst w8
    refine b_aload_n rfl rfl ?_
    refine b_iconst rfl ?_
    refine b_putI rfl (by first | rfl | assumption) rfl rfl ⟨rfl, rfl⟩ ?_
    have hB1 := hs_B_0 (v := 0) hB
    have hs0 : hs_sm I J R (hn_u I 188 0 0, J, R) := hs_sm_0
    obtain ⟨I0, h0⟩ : ∃ z, z = hn_u I 188 0 0 := ⟨_, rfl⟩
    rw [← h0] at hB1 hs0 ⊢
    have e0 : ∀ b, b ≠ 188 → I0 b = I b := fun b hb => by rw [h0, hn_u_ne _ _ _ hb]
    have e188 : ∀ j, j ≠ 0 → I0 188 j = I 188 j := fun j hj => by rw [h0, hn_u_eq, va_up, if_neg hj]
    have hB2 := hB1
    obtain ⟨hR, hN, hQ, hfm, hw, hAw⟩ := hB1
    have hM := hs_M_of hR
    have hN0 := hN
    have hQ0 := hQ
    have hw0 := hw
    obtain ⟨⟨hn, n8, hnp, n4, hkn⟩, hL⟩ := hN
    obtain ⟨⟨_, hVs, hVw, hVp, hVh⟩, hVt⟩ := hQ
    simp only [Nat.zero_add] at hVs hVw hVp hVh
    obtain ⟨m1, m4, m5, m6, m9, m10, m11, m12, m14, m15, m16, m17, m20, m21, m22, m23, m25, m27, m28, m29, m30, m31, m32⟩ := id hM
    refine b_iload_n rfl rfl ?_
    refine b_tsw (q := 111) rfl rfl ?_
    refine b_aload_n rfl rfl ?_
    refine b_getR rfl (by first | rfl | assumption) rfl (by assumption) ?_
    refine b_bipush rfl ?_
    refine b_iaload rfl (by first | rfl | assumption) (show (21 : Int32).toInt = ((21 : Nat) : Int) from rfl) (by omega) ?_
    rw [e0 204 (by omega), hv]
    exact b_ireturn rfl trivial (⟨hs0, rfl⟩)
  rw [if_neg w8]
  by_cases w9 : w = 9
  · subst w9
    refine b_aload_n rfl rfl ?_
    refine b_iconst rfl ?_
    refine b_putI rfl (by first | rfl | assumption) rfl rfl ⟨rfl, rfl⟩ ?_
    have hB1 := hs_B_0 (v := 0) hB
    have hs0 : hs_sm I J R (hn_u I 188 0 0, J, R) := hs_sm_0
    obtain ⟨I0, h0⟩ : ∃ z, z = hn_u I 188 0 0 := ⟨_, rfl⟩
    rw [← h0] at hB1 hs0 ⊢
    have e0 : ∀ b, b ≠ 188 → I0 b = I b := fun b hb => by rw [h0, hn_u_ne _ _ _ hb]
    have e188 : ∀ j, j ≠ 0 → I0 188 j = I 188 j := fun j hj => by rw [h0, hn_u_eq, va_up, if_neg hj]
    have hB2 := hB1
    obtain ⟨hR, hN, hQ, hfm, hw, hAw⟩ := hB1
    have hM := hs_M_of hR
    have hN0 := hN
    have hQ0 := hQ
    have hw0 := hw
    obtain ⟨⟨hn, n8, hnp, n4, hkn⟩, hL⟩ := hN
    obtain ⟨⟨_, hVs, hVw, hVp, hVh⟩, hVt⟩ := hQ
    simp only [Nat.zero_add] at hVs hVw hVp hVh
    obtain ⟨m1, m4, m5, m6, m9, m10, m11, m12, m14, m15, m16, m17, m20, m21, m22, m23, m25, m27, m28, m29, m30, m31, m32⟩ := id hM
    refine b_iload_n rfl rfl ?_
    refine b_tsw (q := 119) rfl rfl ?_
    refine b_aload_n rfl rfl ?_
    refine b_getI rfl (by first | rfl | assumption) rfl ?_
    rw [e188 24 (by omega), hp]
    exact b_ireturn rfl trivial (⟨hs0, rfl⟩)
  rw [if_neg w9]
  by_cases w10 : w = 10
  · subst w10
    refine b_aload_n rfl rfl ?_
    refine b_iconst rfl ?_
    refine b_putI rfl (by first | rfl | assumption) rfl rfl ⟨rfl, rfl⟩ ?_
    have hB1 := hs_B_0 (v := 0) hB
    have hs0 : hs_sm I J R (hn_u I 188 0 0, J, R) := hs_sm_0
    obtain ⟨I0, h0⟩ : ∃ z, z = hn_u I 188 0 0 := ⟨_, rfl⟩
    rw [← h0] at hB1 hs0 ⊢
    have e0 : ∀ b, b ≠ 188 → I0 b = I b := fun b hb => by rw [h0, hn_u_ne _ _ _ hb]
    have e188 : ∀ j, j ≠ 0 → I0 188 j = I 188 j := fun j hj => by rw [h0, hn_u_eq, va_up, if_neg hj]
    have hB2 := hB1
    obtain ⟨hR, hN, hQ, hfm, hw, hAw⟩ := hB1
    have hM := hs_M_of hR
    have hN0 := hN
    have hQ0 := hQ
    have hw0 := hw
    obtain ⟨⟨hn, n8, hnp, n4, hkn⟩, hL⟩ := hN
    obtain ⟨⟨_, hVs, hVw, hVp, hVh⟩, hVt⟩ := hQ
    simp only [Nat.zero_add] at hVs hVw hVp hVh
    obtain ⟨m1, m4, m5, m6, m9, m10, m11, m12, m14, m15, m16, m17, m20, m21, m22, m23, m25, m27, m28, m29, m30, m31, m32⟩ := id hM
    refine b_iload_n rfl rfl ?_
    refine b_tsw (q := 124) rfl rfl ?_
    refine b_aload_n rfl rfl ?_
    refine b_getI rfl (by first | rfl | assumption) rfl ?_
    rw [e188 2 (by omega), htl]
    exact b_ireturn rfl trivial (⟨hs0, rfl⟩)
  rw [if_neg w10]
  have ho : w.toInt < 0 ∨ (10 : Int) < w.toInt := hi_out (w := w) (m := 10) (fun j hj => by rcases (show j = 0 ∨ j = 1 ∨ j = 2 ∨ j = 3 ∨ j = 4 ∨ j = 5 ∨ j = 6 ∨ j = 7 ∨ j = 8 ∨ j = 9 ∨ j = 10 by omega) with rfl | rfl | rfl | rfl | rfl | rfl | rfl | rfl | rfl | rfl | rfl <;> assumption)
  refine b_aload_n rfl rfl ?_
  refine b_iconst rfl ?_
  refine b_putI rfl (by first | rfl | assumption) rfl rfl ⟨rfl, rfl⟩ ?_
  have hB1 := hs_B_0 (v := 0) hB
  have hs0 : hs_sm I J R (hn_u I 188 0 0, J, R) := hs_sm_0
  obtain ⟨I0, h0⟩ : ∃ z, z = hn_u I 188 0 0 := ⟨_, rfl⟩
  rw [← h0] at hB1 hs0 ⊢
  have e0 : ∀ b, b ≠ 188 → I0 b = I b := fun b hb => by rw [h0, hn_u_ne _ _ _ hb]
  have e188 : ∀ j, j ≠ 0 → I0 188 j = I 188 j := fun j hj => by rw [h0, hn_u_eq, va_up, if_neg hj]
  have hB2 := hB1
  obtain ⟨hR, hN, hQ, hfm, hw, hAw⟩ := hB1
  have hM := hs_M_of hR
  have hN0 := hN
  have hQ0 := hQ
  have hw0 := hw
  obtain ⟨⟨hn, n8, hnp, n4, hkn⟩, hL⟩ := hN
  obtain ⟨⟨_, hVs, hVw, hVp, hVh⟩, hVt⟩ := hQ
  simp only [Nat.zero_add] at hVs hVw hVp hVh
  obtain ⟨m1, m4, m5, m6, m9, m10, m11, m12, m14, m15, m16, m17, m20, m21, m22, m23, m25, m27, m28, m29, m30, m31, m32⟩ := id hM
  refine b_iload_n rfl rfl ?_
  refine b_tsw (q := 129) rfl (by rw [if_pos ho]; rfl) ?_
  refine b_iconst rfl ?_
  exact b_ireturn rfl trivial (⟨hs0, rfl⟩)
end HNcount
