section HNmrest
variable {I I' : Nat → Nat → Int32} {J J' : Nat → Nat → Int64} {R : Nat → Nat → Option Nat} {t : Nat} {N : sp_N} {Q Q' : sp_Q}
theorem q_M_meet {x y : Int32} (hB : hs_B I R N Q) : hn_F 5 hm_M_meet [.ref 188, .int x, .int y] (I, J, R) (fun r D' => hs_sm I J R D' ∧ r = some (.int (v_meet N Q x y))) := by
  have n4' : N.2.1 ≤ 4 := hB.2.1.1.2.2.2.1
  have n8' : N.1 ≤ 8 := hB.2.1.1.2.1
  have hwi := sp_hrs_w n4' hB.2.2.2.2.1
  refine hn_F_of _ hk_M_meet rfl (Nat.le_of_ble_eq_true rfl) ?_
  by_cases hx : sp_in x N.2.1
  · obtain ⟨p, hp, rfl⟩ := sp_in_nat hx
    rw [v_meet, sp_at_in hp (by omega)]
    by_cases hy : sp_in y N.2.1
    · obtain ⟨o, ho, rfl⟩ := sp_in_nat hy
      rw [sp_at_in ho (by omega)]
      by_cases he : nI p = nI o
      · rw [if_pos he]
        refine b_aload_n rfl rfl ?_
        refine b_iconst rfl ?_
        refine b_putI rfl (by first | rfl | assumption) rfl rfl ⟨rfl, rfl⟩ ?_
        have hB1 := hs_B_0 (v := 0) hB
        have hs0 : hs_sm I J R (hn_u I 188 0 0, J, R) := hs_sm_0
        generalize hn_u I 188 0 0 = I0 at hB1 hs0 ⊢
        have hB2 := hB1
        obtain ⟨hR, hN, hQ, hfm, hw, hAw⟩ := hB1
        have hM := hs_M_of hR
        have hN0 := hN
        have hQ0 := hQ
        have hw0 := hw
        obtain ⟨⟨hn, n8, hnp, n4, hkn⟩, hL⟩ := hN
        obtain ⟨⟨_, hVs, hVw, hVp, hVh⟩, hVt⟩ := hQ
        simp only [Nat.zero_add] at hVs hVw hVp hVh
        obtain ⟨m1, m4, m5, m6, m9, m10, m11, m12, m14, m15, m16, m17, m20, m21, m22, m23, m25, m27, m28, m29, m30, m31, m32⟩ := id hM
        refine b_aload_n rfl rfl ?_
        refine b_callV rfl rfl hk_M_triesNow rfl rfl rfl (by first | rfl | assumption) rfl (Nat.le_of_ble_eq_true rfl) (qm_tc hB hs0) (Nat.le_of_ble_eq_true rfl) (fun r_6 D_6 q_6 => ?_)
        obtain ⟨rfl, I1, rfl, h1, h2⟩ := q_6
        have hB1' := hs_B_sm hB h1
        refine b_iconst rfl ?_
        refine b_istore_n rfl (Nat.le_of_ble_eq_true rfl) ?_
        refine b_iload_n rfl rfl ?_
        refine b_bipush rfl ?_
        refine b_icmp_gt rfl (fun c_14 => ?_) (fun c_14 => ?_)
        · exact absurd c_14 (by decide)
        · refine b_aload_n rfl rfl ?_
          refine b_iload_n rfl rfl ?_
          refine b_callV rfl rfl hk_M_isPerson rfl rfl rfl (by first | rfl | assumption) rfl (Nat.le_of_ble_eq_true rfl) (q_M_isPerson hM hB1'.2.1.1.2.2.1 n4) (Nat.le_of_ble_eq_true rfl) (fun r_19 D_19 q_19 => ?_)
          obtain ⟨rfl, hq⟩ := q_19
          rw [if_pos hx] at hq
          subst hq
          refine b_if_eq rfl (fun c_22 => ?_) (fun c_22 => ?_)
          · exact absurd c_22 (by decide)
          · refine b_aload_n rfl rfl ?_
            refine b_iload_n rfl rfl ?_
            refine b_callV rfl rfl hk_M_isPerson rfl rfl rfl (by first | rfl | assumption) rfl (Nat.le_of_ble_eq_true rfl) (q_M_isPerson hM hB1'.2.1.1.2.2.1 n4) (Nat.le_of_ble_eq_true rfl) (fun r_27 D_27 q_27 => ?_)
            obtain ⟨rfl, hq⟩ := q_27
            rw [if_pos hy] at hq
            subst hq
            refine b_if_eq rfl (fun c_30 => ?_) (fun c_30 => ?_)
            · exact absurd c_30 (by decide)
            · refine b_iload_n rfl rfl ?_
              refine b_iload_n rfl rfl ?_
              refine b_icmp_eq rfl (fun c_35 => ?_) (fun c_35 => ?_)
              · refine b_iconst rfl ?_
                exact b_ireturn rfl trivial (⟨h1, rfl⟩)
              · exact absurd he c_35
      · rw [if_neg he]
        have L11 : ∀ I', hs_sm I J R (I', J, R) → hs_Qm I' 987 (sp_hrs N Q 0) → hn_B 5 hm_M_meet (fun r D' => hs_sm I J R D' ∧ r = some (.int (sp_first (sp_met N Q p o) (61 - 0) 0))) 11 [.ref 188, .int (nI p), .int (nI o), .int (nI 0)] [] (I', J, R) := by
          refine sp_ind 61 (fun i => ∀ I', hs_sm I J R (I', J, R) → hs_Qm I' 987 (sp_hrs N Q i) → hn_B 5 hm_M_meet (fun r D' => hs_sm I J R D' ∧ r = some (.int (sp_first (sp_met N Q p o) (61 - i) i))) 11 [.ref 188, .int (nI p), .int (nI o), .int (nI i)] [] (I', J, R)) ?_ ?_
          · intro I' h g
            refine b_iload_n rfl rfl ?_
            refine b_bipush rfl ?_
            refine b_icmp_gt rfl (fun c_14 => ?_) (fun c_14 => ?_)
            · refine b_iconst rfl ?_
              exact b_ireturn rfl trivial (⟨h, rfl⟩)
            · exact absurd (show (60 : Int32) < nI 61 by decide) c_14
          · intro i hi ih I' h g
            have hB' := hB
            have hB := hs_B_sm hB h
            obtain ⟨hR, hN, hQ, hfm, hw, hAw⟩ := hB
            have hM := hs_M_of hR
            have hN0 := hN
            have hQ0 := hQ
            have hw0 := hw
            obtain ⟨⟨hn, n8, hnp, n4, hkn⟩, hL⟩ := hN
            obtain ⟨⟨_, hVs, hVw, hVp, hVh⟩, hVt⟩ := hQ
            simp only [Nat.zero_add] at hVs hVw hVp hVh
            obtain ⟨m1, m4, m5, m6, m9, m10, m11, m12, m14, m15, m16, m17, m20, m21, m22, m23, m25, m27, m28, m29, m30, m31, m32⟩ := id hM
            have hPp := g.1.2.2.2.1
            rw [sp_first_s _ hi]
            refine b_iload_n rfl rfl ?_
            refine b_bipush rfl ?_
            refine b_icmp_gt rfl (fun c_14 => ?_) (fun c_14 => ?_)
            · exact absurd c_14 (hi_gt60 hi)
            · refine b_aload_n rfl rfl ?_
              refine b_iload_n rfl rfl ?_
              refine b_callV rfl rfl hk_M_isPerson rfl rfl rfl (by first | rfl | assumption) rfl (Nat.le_of_ble_eq_true rfl) (q_M_isPerson hM hnp n4) (Nat.le_of_ble_eq_true rfl) (fun r_19 D_19 q_19 => ?_)
              obtain ⟨rfl, hq⟩ := q_19
              rw [if_pos hx] at hq
              subst hq
              refine b_if_eq rfl (fun c_22 => ?_) (fun c_22 => ?_)
              · exact absurd c_22 (by decide)
              · refine b_aload_n rfl rfl ?_
                refine b_iload_n rfl rfl ?_
                refine b_callV rfl rfl hk_M_isPerson rfl rfl rfl (by first | rfl | assumption) rfl (Nat.le_of_ble_eq_true rfl) (q_M_isPerson hM hnp n4) (Nat.le_of_ble_eq_true rfl) (fun r_27 D_27 q_27 => ?_)
                obtain ⟨rfl, hq⟩ := q_27
                rw [if_pos hy] at hq
                subst hq
                refine b_if_eq rfl (fun c_30 => ?_) (fun c_30 => ?_)
                · exact absurd c_30 (by decide)
                · refine b_iload_n rfl rfl ?_
                  refine b_iload_n rfl rfl ?_
                  refine b_icmp_eq rfl (fun c_35 => ?_) (fun c_35 => ?_)
                  · exact absurd c_35 he
                  · refine b_aload_n rfl rfl ?_
                    refine b_sipush rfl ?_
                    refine b_iload_n rfl rfl ?_
                    refine b_callV rfl rfl hk_M_doesLie rfl rfl rfl (by first | rfl | assumption) rfl (Nat.le_of_ble_eq_true rfl) (q_M_doesLie hM g.1 n8 (hwi i).1 (show p < 4 by omega) rfl) (Nat.le_of_ble_eq_true rfl) (fun r_43 D_43 q_43 => ?_)
                    obtain ⟨rfl, rfl⟩ := q_43
                    refine b_if_eq rfl (fun c_46 => ?_) (fun c_46 => ?_)
                    · refine b_aload_n rfl rfl ?_
                      refine b_sipush rfl ?_
                      refine b_iconst rfl ?_
                      refine b_callV rfl rfl hk_M_passes rfl rfl rfl (by first | rfl | assumption) rfl (Nat.le_of_ble_eq_true rfl) (qm_th hB' h (by omega) g (hwi i) rfl) (Nat.le_of_ble_eq_true rfl) (fun r_79 D_79 q_79 => ?_)
                      obtain ⟨⟨I2, rfl, h2, g2, _⟩, rfl⟩ := q_79
                      refine b_pop rfl rfl ?_
                      refine b_iinc rfl rfl (Nat.le_of_ble_eq_true rfl) ?_
                      refine b_goto rfl ?_
                      first | (rw [if_neg (fun z : sp_met N Q p o i => absurd c_46 (by rw [if_neg z.1]; decide))]; exact b_eq (ih I2 h2 g2) (by rw [nI_succ]; rfl) rfl rfl) | (rw [if_neg (fun z : sp_met N Q p o i => c_69 z.2)]; exact b_eq (ih I2 h2 g2) (by rw [nI_succ]; rfl) rfl rfl)
                    · refine b_aload_n rfl rfl ?_
                      refine b_getR rfl (by first | rfl | assumption) rfl (by assumption) ?_
                      refine b_sipush rfl ?_
                      refine b_iload_n rfl rfl ?_
                      refine b_iadd rfl ?_
                      refine b_iaload rfl (by first | rfl | assumption) (hi_ix (987 + 13 + p) (by rw [nI_ad]; rfl) (by omega)) (by omega) ?_
                      refine b_aload_n rfl rfl ?_
                      refine b_getR rfl (by first | rfl | assumption) rfl (by assumption) ?_
                      refine b_sipush rfl ?_
                      refine b_iload_n rfl rfl ?_
                      refine b_iadd rfl ?_
                      refine b_iaload rfl (by first | rfl | assumption) (hi_ix (987 + 13 + o) (by rw [nI_ad]; rfl) (by omega)) (by omega) ?_
                      rw [hPp p (by omega), hPp o (by omega)]
                      refine b_icmp_ne rfl (fun c_69 => ?_) (fun c_69 => ?_)
                      · refine b_aload_n rfl rfl ?_
                        refine b_sipush rfl ?_
                        refine b_iconst rfl ?_
                        refine b_callV rfl rfl hk_M_passes rfl rfl rfl (by first | rfl | assumption) rfl (Nat.le_of_ble_eq_true rfl) (qm_th hB' h (by omega) g (hwi i) rfl) (Nat.le_of_ble_eq_true rfl) (fun r_79 D_79 q_79 => ?_)
                        obtain ⟨⟨I2, rfl, h2, g2, _⟩, rfl⟩ := q_79
                        refine b_pop rfl rfl ?_
                        refine b_iinc rfl rfl (Nat.le_of_ble_eq_true rfl) ?_
                        refine b_goto rfl ?_
                        first | (rw [if_neg (fun z : sp_met N Q p o i => absurd c_46 (by rw [if_neg z.1]; decide))]; exact b_eq (ih I2 h2 g2) (by rw [nI_succ]; rfl) rfl rfl) | (rw [if_neg (fun z : sp_met N Q p o i => c_69 z.2)]; exact b_eq (ih I2 h2 g2) (by rw [nI_succ]; rfl) rfl rfl)
                      · refine b_iload_n rfl rfl ?_
                        exact b_ireturn rfl trivial (⟨h, by rw [if_pos (show sp_met N Q p o i from ⟨fun z => c_46 (if_pos z), c_69⟩)]⟩)
        refine b_aload_n rfl rfl ?_
        refine b_iconst rfl ?_
        refine b_putI rfl (by first | rfl | assumption) rfl rfl ⟨rfl, rfl⟩ ?_
        have hB1 := hs_B_0 (v := 0) hB
        have hs0 : hs_sm I J R (hn_u I 188 0 0, J, R) := hs_sm_0
        generalize hn_u I 188 0 0 = I0 at hB1 hs0 ⊢
        have hB2 := hB1
        obtain ⟨hR, hN, hQ, hfm, hw, hAw⟩ := hB1
        have hM := hs_M_of hR
        have hN0 := hN
        have hQ0 := hQ
        have hw0 := hw
        obtain ⟨⟨hn, n8, hnp, n4, hkn⟩, hL⟩ := hN
        obtain ⟨⟨_, hVs, hVw, hVp, hVh⟩, hVt⟩ := hQ
        simp only [Nat.zero_add] at hVs hVw hVp hVh
        obtain ⟨m1, m4, m5, m6, m9, m10, m11, m12, m14, m15, m16, m17, m20, m21, m22, m23, m25, m27, m28, m29, m30, m31, m32⟩ := id hM
        refine b_aload_n rfl rfl ?_
        refine b_callV rfl rfl hk_M_triesNow rfl rfl rfl (by first | rfl | assumption) rfl (Nat.le_of_ble_eq_true rfl) (qm_tc hB hs0) (Nat.le_of_ble_eq_true rfl) (fun r_6 D_6 q_6 => ?_)
        obtain ⟨rfl, I1, rfl, h1, h2⟩ := q_6
        refine b_iconst rfl ?_
        refine b_istore_n rfl (Nat.le_of_ble_eq_true rfl) ?_
        exact b_eq (L11 I1 h1 h2) (by rw [nI_0]; rfl) rfl rfl
    · rw [sp_at_out hy]
      refine b_aload_n rfl rfl ?_
      refine b_iconst rfl ?_
      refine b_putI rfl (by first | rfl | assumption) rfl rfl ⟨rfl, rfl⟩ ?_
      have hB1 := hs_B_0 (v := 0) hB
      have hs0 : hs_sm I J R (hn_u I 188 0 0, J, R) := hs_sm_0
      generalize hn_u I 188 0 0 = I0 at hB1 hs0 ⊢
      have hB2 := hB1
      obtain ⟨hR, hN, hQ, hfm, hw, hAw⟩ := hB1
      have hM := hs_M_of hR
      have hN0 := hN
      have hQ0 := hQ
      have hw0 := hw
      obtain ⟨⟨hn, n8, hnp, n4, hkn⟩, hL⟩ := hN
      obtain ⟨⟨_, hVs, hVw, hVp, hVh⟩, hVt⟩ := hQ
      simp only [Nat.zero_add] at hVs hVw hVp hVh
      obtain ⟨m1, m4, m5, m6, m9, m10, m11, m12, m14, m15, m16, m17, m20, m21, m22, m23, m25, m27, m28, m29, m30, m31, m32⟩ := id hM
      refine b_aload_n rfl rfl ?_
      refine b_callV rfl rfl hk_M_triesNow rfl rfl rfl (by first | rfl | assumption) rfl (Nat.le_of_ble_eq_true rfl) (qm_tc hB hs0) (Nat.le_of_ble_eq_true rfl) (fun r_6 D_6 q_6 => ?_)
      obtain ⟨rfl, I1, rfl, h1, h2⟩ := q_6
      have hB1' := hs_B_sm hB h1
      refine b_iconst rfl ?_
      refine b_istore_n rfl (Nat.le_of_ble_eq_true rfl) ?_
      refine b_iload_n rfl rfl ?_
      refine b_bipush rfl ?_
      refine b_icmp_gt rfl (fun c_14 => ?_) (fun c_14 => ?_)
      · exact absurd c_14 (by decide)
      · refine b_aload_n rfl rfl ?_
        refine b_iload_n rfl rfl ?_
        refine b_callV rfl rfl hk_M_isPerson rfl rfl rfl (by first | rfl | assumption) rfl (Nat.le_of_ble_eq_true rfl) (q_M_isPerson hM hB1'.2.1.1.2.2.1 n4) (Nat.le_of_ble_eq_true rfl) (fun r_19 D_19 q_19 => ?_)
        obtain ⟨rfl, hq⟩ := q_19
        rw [if_pos hx] at hq
        subst hq
        refine b_if_eq rfl (fun c_22 => ?_) (fun c_22 => ?_)
        · exact absurd c_22 (by decide)
        · refine b_aload_n rfl rfl ?_
          refine b_iload_n rfl rfl ?_
          refine b_callV rfl rfl hk_M_isPerson rfl rfl rfl (by first | rfl | assumption) rfl (Nat.le_of_ble_eq_true rfl) (q_M_isPerson hM hB1'.2.1.1.2.2.1 n4) (Nat.le_of_ble_eq_true rfl) (fun r_27 D_27 q_27 => ?_)
          obtain ⟨rfl, hq⟩ := q_27
          rw [if_neg hy] at hq
          subst hq
          refine b_if_eq rfl (fun c_30 => ?_) (fun c_30 => ?_)
          · refine b_iconst rfl ?_
            exact b_ireturn rfl trivial (⟨h1, rfl⟩)
          · exact absurd rfl c_30
  · rw [v_meet, sp_at_out hx]
    refine b_aload_n rfl rfl ?_
    refine b_iconst rfl ?_
    refine b_putI rfl (by first | rfl | assumption) rfl rfl ⟨rfl, rfl⟩ ?_
    have hB1 := hs_B_0 (v := 0) hB
    have hs0 : hs_sm I J R (hn_u I 188 0 0, J, R) := hs_sm_0
    generalize hn_u I 188 0 0 = I0 at hB1 hs0 ⊢
    have hB2 := hB1
    obtain ⟨hR, hN, hQ, hfm, hw, hAw⟩ := hB1
    have hM := hs_M_of hR
    have hN0 := hN
    have hQ0 := hQ
    have hw0 := hw
    obtain ⟨⟨hn, n8, hnp, n4, hkn⟩, hL⟩ := hN
    obtain ⟨⟨_, hVs, hVw, hVp, hVh⟩, hVt⟩ := hQ
    simp only [Nat.zero_add] at hVs hVw hVp hVh
    obtain ⟨m1, m4, m5, m6, m9, m10, m11, m12, m14, m15, m16, m17, m20, m21, m22, m23, m25, m27, m28, m29, m30, m31, m32⟩ := id hM
    refine b_aload_n rfl rfl ?_
    refine b_callV rfl rfl hk_M_triesNow rfl rfl rfl (by first | rfl | assumption) rfl (Nat.le_of_ble_eq_true rfl) (qm_tc hB hs0) (Nat.le_of_ble_eq_true rfl) (fun r_6 D_6 q_6 => ?_)
    obtain ⟨rfl, I1, rfl, h1, h2⟩ := q_6
    have hB1' := hs_B_sm hB h1
    refine b_iconst rfl ?_
    refine b_istore_n rfl (Nat.le_of_ble_eq_true rfl) ?_
    refine b_iload_n rfl rfl ?_
    refine b_bipush rfl ?_
    refine b_icmp_gt rfl (fun c_14 => ?_) (fun c_14 => ?_)
    · exact absurd c_14 (by decide)
    · refine b_aload_n rfl rfl ?_
      refine b_iload_n rfl rfl ?_
      refine b_callV rfl rfl hk_M_isPerson rfl rfl rfl (by first | rfl | assumption) rfl (Nat.le_of_ble_eq_true rfl) (q_M_isPerson hM hB1'.2.1.1.2.2.1 n4) (Nat.le_of_ble_eq_true rfl) (fun r_19 D_19 q_19 => ?_)
      obtain ⟨rfl, hq⟩ := q_19
      rw [if_neg hx] at hq
      subst hq
      refine b_if_eq rfl (fun c_22 => ?_) (fun c_22 => ?_)
      · refine b_iconst rfl ?_
        exact b_ireturn rfl trivial (⟨h1, rfl⟩)
      · exact absurd rfl c_22
theorem q_M_crowd (hB : hs_B I R N Q) : hn_F 2 hm_M_crowd [.ref 188] (I, J, R) (fun r D' => hs_sm I J R D' ∧ r = some (.int (v_crowd (qP Q) N.2.1 N.1).1)) := by
  refine hn_F_of _ hk_M_crowd rfl (Nat.le_of_ble_eq_true rfl) ?_
  refine b_aload_n rfl rfl ?_
  refine b_iconst rfl ?_
  refine b_putI rfl (by first | rfl | assumption) rfl rfl ⟨rfl, rfl⟩ ?_
  have hB1 := hs_B_0 (v := 0) hB
  have hs0 : hs_sm I J R (hn_u I 188 0 0, J, R) := hs_sm_0
  generalize hn_u I 188 0 0 = I0 at hB1 hs0 ⊢
  have hB2 := hB1
  obtain ⟨hR, hN, hQ, hfm, hw, hAw⟩ := hB1
  have hM := hs_M_of hR
  have hN0 := hN
  have hQ0 := hQ
  have hw0 := hw
  obtain ⟨⟨hn, n8, hnp, n4, hkn⟩, hL⟩ := hN
  obtain ⟨⟨_, hVs, hVw, hVp, hVh⟩, hVt⟩ := hQ
  simp only [Nat.zero_add] at hVs hVw hVp hVh
  obtain ⟨m1, m4, m5, m6, m9, m10, m11, m12, m14, m15, m16, m17, m20, m21, m22, m23, m25, m27, m28, m29, m30, m31, m32⟩ := id hM
  refine b_iconst rfl ?_
  refine b_istore_n rfl (Nat.le_of_ble_eq_true rfl) ?_
  refine b_iconst rfl ?_
  refine b_istore_n rfl (Nat.le_of_ble_eq_true rfl) ?_
  refine b_iconst rfl ?_
  refine b_istore_n rfl (Nat.le_of_ble_eq_true rfl) ?_
  refine b_eq (sp_ind N.1 (fun k => ∀ l, hn_B 2 hm_M_crowd (fun r D' => hs_sm I J R D' ∧ r = some (.int (v_crowd (qP Q) N.2.1 N.1).1)) 11 [.ref 188, .int (v_crowd (qP Q) N.2.1 k).1, .int (v_crowd (qP Q) N.2.1 k).2, .int (nI k), l] [] (I0, J, R)) ?_ ?_ .null) (by rw [nI_0]; rfl) rfl rfl
  · intro l
    refine b_iload_n rfl rfl ?_
    refine b_aload_n rfl rfl ?_
    refine b_callV rfl rfl hk_M_knots rfl rfl rfl (by first | rfl | assumption) rfl (Nat.le_of_ble_eq_true rfl) (q_M_knots hM hn) (Nat.le_of_ble_eq_true rfl) (fun r_13 D_13 q_13 => ?_)
    obtain ⟨rfl, rfl⟩ := q_13
    refine b_icmp_ge rfl (fun c_16 => ?_) (fun c_16 => ?_)
    · refine b_iload_n rfl rfl ?_
      exact b_ireturn rfl trivial (⟨hs0, rfl⟩)
    · exact absurd (nI_le (Nat.le_refl _) (by omega)) c_16
  · intro k hk ih l
    have e : v_crowd (qP Q) N.2.1 (k + 1) = if (v_crowd (qP Q) N.2.1 k).2 < sp_pop (sp_lyingAt (qP Q) (nI k) N.2.1) then (nI k, sp_pop (sp_lyingAt (qP Q) (nI k) N.2.1)) else v_crowd (qP Q) N.2.1 k := rfl
    rw [e] at ih
    refine b_iload_n rfl rfl ?_
    refine b_aload_n rfl rfl ?_
    refine b_callV rfl rfl hk_M_knots rfl rfl rfl (by first | rfl | assumption) rfl (Nat.le_of_ble_eq_true rfl) (q_M_knots hM hn) (Nat.le_of_ble_eq_true rfl) (fun r_13 D_13 q_13 => ?_)
    obtain ⟨rfl, rfl⟩ := q_13
    refine b_icmp_ge rfl (fun c_16 => ?_) (fun c_16 => ?_)
    · exact absurd c_16 (nI_ge hk (by omega))
    · refine b_aload_n rfl rfl ?_
      refine b_iconst rfl ?_
      refine b_iload_n rfl rfl ?_
      refine b_callV rfl rfl hk_M_lyingAt rfl rfl rfl (by first | rfl | assumption) rfl (Nat.le_of_ble_eq_true rfl) (q_M_lyingAt hM hQ0.1 hnp n4 rfl) (Nat.le_of_ble_eq_true rfl) (fun r_22 D_22 q_22 => ?_)
      obtain ⟨rfl, rfl⟩ := q_22
      refine b_callS rfl rfl hk_M_bits rfl rfl rfl (Nat.le_of_ble_eq_true rfl) (q_M_bits) (Nat.le_of_ble_eq_true rfl) (fun r_25 D_25 q_25 => ?_)
      obtain ⟨rfl, rfl⟩ := q_25
      refine b_istore rfl (Nat.le_of_ble_eq_true rfl) ?_
      refine b_iload rfl rfl ?_
      refine b_iload_n rfl rfl ?_
      refine b_icmp_le rfl (fun c_33 => ?_) (fun c_33 => ?_)
      · refine b_iload_n rfl rfl ?_
        refine b_istore_n rfl (Nat.le_of_ble_eq_true rfl) ?_
        refine b_iload rfl rfl ?_
        refine b_iload_n rfl rfl ?_
        refine b_icmp_le rfl (fun c_45 => ?_) (fun c_45 => ?_)
        · refine b_iload_n rfl rfl ?_
          refine b_istore_n rfl (Nat.le_of_ble_eq_true rfl) ?_
          refine b_iinc rfl rfl (Nat.le_of_ble_eq_true rfl) ?_
          refine b_goto rfl ?_
          first | exact absurd c_45 c_33 | exact absurd c_33 c_45 | (rw [if_neg (Int32.not_lt.mpr c_33)] at ih; exact b_eq (ih _) (by rw [nI_succ]; rfl) rfl rfl) | (rw [if_pos (Int32.not_le.mp c_33)] at ih; exact b_eq (ih _) (by rw [nI_succ]; rfl) rfl rfl)
        · refine b_iload rfl rfl ?_
          refine b_goto rfl ?_
          refine b_istore_n rfl (Nat.le_of_ble_eq_true rfl) ?_
          refine b_iinc rfl rfl (Nat.le_of_ble_eq_true rfl) ?_
          refine b_goto rfl ?_
          first | exact absurd c_45 c_33 | exact absurd c_33 c_45 | (rw [if_neg (Int32.not_lt.mpr c_33)] at ih; exact b_eq (ih _) (by rw [nI_succ]; rfl) rfl rfl) | (rw [if_pos (Int32.not_le.mp c_33)] at ih; exact b_eq (ih _) (by rw [nI_succ]; rfl) rfl rfl)
      · refine b_iload_n rfl rfl ?_
        refine b_goto rfl ?_
        refine b_istore_n rfl (Nat.le_of_ble_eq_true rfl) ?_
        refine b_iload rfl rfl ?_
        refine b_iload_n rfl rfl ?_
        refine b_icmp_le rfl (fun c_45 => ?_) (fun c_45 => ?_)
        · refine b_iload_n rfl rfl ?_
          refine b_istore_n rfl (Nat.le_of_ble_eq_true rfl) ?_
          refine b_iinc rfl rfl (Nat.le_of_ble_eq_true rfl) ?_
          refine b_goto rfl ?_
          first | exact absurd c_45 c_33 | exact absurd c_33 c_45 | (rw [if_neg (Int32.not_lt.mpr c_33)] at ih; exact b_eq (ih _) (by rw [nI_succ]; rfl) rfl rfl) | (rw [if_pos (Int32.not_le.mp c_33)] at ih; exact b_eq (ih _) (by rw [nI_succ]; rfl) rfl rfl)
        · refine b_iload rfl rfl ?_
          refine b_goto rfl ?_
          refine b_istore_n rfl (Nat.le_of_ble_eq_true rfl) ?_
          refine b_iinc rfl rfl (Nat.le_of_ble_eq_true rfl) ?_
          refine b_goto rfl ?_
          first | exact absurd c_45 c_33 | exact absurd c_33 c_45 | (rw [if_neg (Int32.not_lt.mpr c_33)] at ih; exact b_eq (ih _) (by rw [nI_succ]; rfl) rfl rfl) | (rw [if_pos (Int32.not_le.mp c_33)] at ih; exact b_eq (ih _) (by rw [nI_succ]; rfl) rfl rfl)
theorem sp_farl_s {s : Nat → Int32} {o m i : Nat} {r : Int32} : sp_farl s o (m + 1) i r = if sp_bit r o then nI i else sp_farl s o m (i + 1) (r ||| sp_union s r 8) := rfl
theorem q_M_far {x y : Int32} (hB : hs_B I R N Q) : hn_F 2 hm_M_far [.ref 188, .int x, .int y] (I, J, R) (fun r D' => hs_sm I J R D' ∧ r = some (.int (sp_at x N.1 (fun k => sp_at y N.1 (fun o => sp_farl (qS Q) o 8 0 ((1 : Int32) <<< (nI k &&& 31))) (-1)) (-1)))) := by
  have n8' : N.1 ≤ 8 := hB.2.1.1.2.1
  refine hn_F_of _ hk_M_far rfl (Nat.le_of_ble_eq_true rfl) ?_
  by_cases hy : sp_in y N.1
  · obtain ⟨o, ho, rfl⟩ := sp_in_nat hy
    have L24 : ∀ I0, hs_B I0 R N Q → hs_sm I J R (I0, J, R) → ∀ s0 : Int32, hn_B 2 hm_M_far (fun r D' => hs_sm I J R D' ∧ r = some (.int (sp_farl (qS Q) o (8 - 0) 0 s0))) 24 [.ref 188, .int x, .int (nI o), .int s0, .int (nI 0)] [] (I0, J, R) := by
      intro I0 hB hs0
      have hB2 := hB
      obtain ⟨hR, hN, hQ, hfm, hw, hAw⟩ := hB
      have hM := hs_M_of hR
      have hN0 := hN
      have hQ0 := hQ
      have hw0 := hw
      obtain ⟨⟨hn, n8, hnp, n4, hkn⟩, hL⟩ := hN
      obtain ⟨⟨_, hVs, hVw, hVp, hVh⟩, hVt⟩ := hQ
      simp only [Nat.zero_add] at hVs hVw hVp hVh
      obtain ⟨m1, m4, m5, m6, m9, m10, m11, m12, m14, m15, m16, m17, m20, m21, m22, m23, m25, m27, m28, m29, m30, m31, m32⟩ := id hM
      refine sp_ind 8 (fun i => ∀ s0 : Int32, hn_B 2 hm_M_far (fun r D' => hs_sm I J R D' ∧ r = some (.int (sp_farl (qS Q) o (8 - i) i s0))) 24 [.ref 188, .int x, .int (nI o), .int s0, .int (nI i)] [] (I0, J, R)) ?_ ?_
      · intro s0
        refine b_iload rfl rfl ?_
        refine b_bipush rfl ?_
        refine b_icmp_ge rfl (fun c_28 => ?_) (fun c_28 => ?_)
        · refine b_iconst rfl ?_
          exact b_ireturn rfl trivial (⟨hs0, rfl⟩)
        · exact absurd (show (8 : Int32) ≤ nI 8 by decide) c_28
      · intro i hi ih s0
        rw [show 8 - i = (8 - (i + 1)) + 1 by omega, sp_farl_s]
        refine b_iload rfl rfl ?_
        refine b_bipush rfl ?_
        refine b_icmp_ge rfl (fun c_28 => ?_) (fun c_28 => ?_)
        · exact absurd (show nI 8 ≤ nI i from c_28) (nI_ge hi (by omega))
        · refine b_aload_n rfl rfl ?_
          refine b_iload_n rfl rfl ?_
          refine b_callV rfl rfl hk_M_isKnot rfl rfl rfl (by first | rfl | assumption) rfl (Nat.le_of_ble_eq_true rfl) (q_M_isKnot hM hn n8) (Nat.le_of_ble_eq_true rfl) (fun r_33 D_33 q_33 => ?_)
          obtain ⟨rfl, hq⟩ := q_33
          rw [if_pos hy] at hq
          subst hq
          refine b_if_eq rfl (fun c_36 => ?_) (fun c_36 => ?_)
          · exact absurd c_36 (by decide)
          · refine b_iload_n rfl rfl ?_
            refine b_iload_n rfl rfl ?_
            refine b_ishr rfl ?_
            refine b_iconst rfl ?_
            refine b_iand rfl ?_
            refine b_iconst rfl ?_
            refine b_icmp_ne rfl (fun c_45 => ?_) (fun c_45 => ?_)
            · refine b_iload_n rfl rfl ?_
              refine b_aload_n rfl rfl ?_
              refine b_iload_n rfl rfl ?_
              refine b_callV rfl rfl hk_M_onFrom rfl rfl rfl (by first | rfl | assumption) rfl (Nat.le_of_ble_eq_true rfl) (q_M_onFrom hB2) (Nat.le_of_ble_eq_true rfl) (fun r_54 D_54 q_54 => ?_)
              obtain ⟨rfl, rfl⟩ := q_54
              refine b_ior rfl ?_
              refine b_istore_n rfl (Nat.le_of_ble_eq_true rfl) ?_
              refine b_iinc rfl rfl (Nat.le_of_ble_eq_true rfl) ?_
              refine b_goto rfl ?_
              rw [if_neg (fun z => c_45 ((hi_bit1 _).mpr z))]; exact b_eq (ih _) (by rw [nI_succ]; rfl) rfl rfl
            · refine b_iload rfl rfl ?_
              exact b_ireturn rfl trivial (⟨hs0, by rw [if_pos ((hi_bit1 _).mp c_45)]⟩)
    have none0 : ∀ m i, sp_farl (qS Q) o m i 0 = -1 := by
      intro m
      induction m with
      | zero => intro i; rfl
      | succ m ih =>
        intro i
        have hu : ∀ n, sp_union (qS Q) 0 n = 0 := by
          intro n
          induction n with
          | zero => rfl
          | succ n ih2 =>
            show (if sp_bit 0 n then _ else sp_union (qS Q) 0 n) = 0
            rw [ih2]
            have hb0 : ∀ x : Int32, (0 : Int32) >>> x &&& 1 = 0 := by
              intro x
              rw [← Int32.toBitVec_inj, Int32.toBitVec_and, Int32.toBitVec_shiftRight, BitVec.sshiftRight_eq']
              simp
            rw [if_neg (fun z => z (hb0 _))]
        rw [sp_farl_s, if_neg (sp_bit_0 (by omega)), hu, Int32.or_zero]
        exact ih (i + 1)
    by_cases hx : sp_in x N.1
    · obtain ⟨k, hk, rfl⟩ := sp_in_nat hx
      rw [sp_at_in hk n8', sp_at_in ho n8']
      refine b_aload_n rfl rfl ?_
      refine b_iconst rfl ?_
      refine b_putI rfl (by first | rfl | assumption) rfl rfl ⟨rfl, rfl⟩ ?_
      have hB1 := hs_B_0 (v := 0) hB
      have hs0 : hs_sm I J R (hn_u I 188 0 0, J, R) := hs_sm_0
      generalize hn_u I 188 0 0 = I0 at hB1 hs0 ⊢
      have hB2 := hB1
      obtain ⟨hR, hN, hQ, hfm, hw, hAw⟩ := hB1
      have hM := hs_M_of hR
      have hN0 := hN
      have hQ0 := hQ
      have hw0 := hw
      obtain ⟨⟨hn, n8, hnp, n4, hkn⟩, hL⟩ := hN
      obtain ⟨⟨_, hVs, hVw, hVp, hVh⟩, hVt⟩ := hQ
      simp only [Nat.zero_add] at hVs hVw hVp hVh
      obtain ⟨m1, m4, m5, m6, m9, m10, m11, m12, m14, m15, m16, m17, m20, m21, m22, m23, m25, m27, m28, m29, m30, m31, m32⟩ := id hM
      refine b_aload_n rfl rfl ?_
      refine b_iload_n rfl rfl ?_
      refine b_callV rfl rfl hk_M_isKnot rfl rfl rfl (by first | rfl | assumption) rfl (Nat.le_of_ble_eq_true rfl) (q_M_isKnot hM hn n8) (Nat.le_of_ble_eq_true rfl) (fun r_7 D_7 q_7 => ?_)
      obtain ⟨rfl, hq⟩ := q_7
      rw [if_pos hx] at hq
      subst hq
      refine b_if_eq rfl (fun c_10 => ?_) (fun c_10 => ?_)
      · exact absurd c_10 (by decide)
      · refine b_iconst rfl ?_
        refine b_iload_n rfl rfl ?_
        refine b_ishl rfl ?_
        refine b_goto rfl ?_
        refine b_istore_n rfl (Nat.le_of_ble_eq_true rfl) ?_
        refine b_iconst rfl ?_
        refine b_istore rfl (Nat.le_of_ble_eq_true rfl) ?_
        exact b_eq (L24 _ hB2 hs0 _) (by rw [nI_0]; rfl) rfl rfl
    · rw [sp_at_out hx]
      refine b_aload_n rfl rfl ?_
      refine b_iconst rfl ?_
      refine b_putI rfl (by first | rfl | assumption) rfl rfl ⟨rfl, rfl⟩ ?_
      have hB1 := hs_B_0 (v := 0) hB
      have hs0 : hs_sm I J R (hn_u I 188 0 0, J, R) := hs_sm_0
      generalize hn_u I 188 0 0 = I0 at hB1 hs0 ⊢
      have hB2 := hB1
      obtain ⟨hR, hN, hQ, hfm, hw, hAw⟩ := hB1
      have hM := hs_M_of hR
      have hN0 := hN
      have hQ0 := hQ
      have hw0 := hw
      obtain ⟨⟨hn, n8, hnp, n4, hkn⟩, hL⟩ := hN
      obtain ⟨⟨_, hVs, hVw, hVp, hVh⟩, hVt⟩ := hQ
      simp only [Nat.zero_add] at hVs hVw hVp hVh
      obtain ⟨m1, m4, m5, m6, m9, m10, m11, m12, m14, m15, m16, m17, m20, m21, m22, m23, m25, m27, m28, m29, m30, m31, m32⟩ := id hM
      refine b_aload_n rfl rfl ?_
      refine b_iload_n rfl rfl ?_
      refine b_callV rfl rfl hk_M_isKnot rfl rfl rfl (by first | rfl | assumption) rfl (Nat.le_of_ble_eq_true rfl) (q_M_isKnot hM hn n8) (Nat.le_of_ble_eq_true rfl) (fun r_7 D_7 q_7 => ?_)
      obtain ⟨rfl, hq⟩ := q_7
      rw [if_neg hx] at hq
      subst hq
      refine b_if_eq rfl (fun c_10 => ?_) (fun c_10 => ?_)
      · refine b_iconst rfl ?_
        refine b_istore_n rfl (Nat.le_of_ble_eq_true rfl) ?_
        refine b_iconst rfl ?_
        refine b_istore rfl (Nat.le_of_ble_eq_true rfl) ?_
        rw [← none0 (8 - 0) 0]; exact b_eq (L24 _ hB2 hs0 _) (by rw [nI_0]; rfl) rfl rfl
      · exact absurd rfl c_10
  · have hv : sp_at x N.1 (fun k => sp_at y N.1 (fun o => sp_farl (qS Q) o 8 0 ((1 : Int32) <<< (nI k &&& 31))) (-1)) (-1) = -1 := by
      unfold sp_at
      by_cases hx : sp_in x N.1
      · rw [if_pos hx]; exact if_neg hy
      · rw [if_neg hx]
    rw [hv]
    refine b_aload_n rfl rfl ?_
    refine b_iconst rfl ?_
    refine b_putI rfl (by first | rfl | assumption) rfl rfl ⟨rfl, rfl⟩ ?_
    have hB1 := hs_B_0 (v := 0) hB
    have hs0 : hs_sm I J R (hn_u I 188 0 0, J, R) := hs_sm_0
    generalize hn_u I 188 0 0 = I0 at hB1 hs0 ⊢
    have hB2 := hB1
    obtain ⟨hR, hN, hQ, hfm, hw, hAw⟩ := hB1
    have hM := hs_M_of hR
    have hN0 := hN
    have hQ0 := hQ
    have hw0 := hw
    obtain ⟨⟨hn, n8, hnp, n4, hkn⟩, hL⟩ := hN
    obtain ⟨⟨_, hVs, hVw, hVp, hVh⟩, hVt⟩ := hQ
    simp only [Nat.zero_add] at hVs hVw hVp hVh
    obtain ⟨m1, m4, m5, m6, m9, m10, m11, m12, m14, m15, m16, m17, m20, m21, m22, m23, m25, m27, m28, m29, m30, m31, m32⟩ := id hM
    refine b_aload_n rfl rfl ?_
    refine b_iload_n rfl rfl ?_
    refine b_callV rfl rfl hk_M_isKnot rfl rfl rfl (by first | rfl | assumption) rfl (Nat.le_of_ble_eq_true rfl) (q_M_isKnot hM hn n8) (Nat.le_of_ble_eq_true rfl) (fun r_7 D_7 q_7 => ?_)
    obtain ⟨rfl, rfl⟩ := q_7
    refine b_if_eq rfl (fun c_10 => ?_) (fun c_10 => ?_)
    · refine b_iconst rfl ?_
      refine b_istore_n rfl (Nat.le_of_ble_eq_true rfl) ?_
      refine b_iconst rfl ?_
      refine b_istore rfl (Nat.le_of_ble_eq_true rfl) ?_
      refine b_iload rfl rfl ?_
      refine b_bipush rfl ?_
      refine b_icmp_ge rfl (fun c_28 => ?_) (fun c_28 => ?_)
      · exact absurd c_28 (by decide)
      · refine b_aload_n rfl rfl ?_
        refine b_iload_n rfl rfl ?_
        refine b_callV rfl rfl hk_M_isKnot rfl rfl rfl (by first | rfl | assumption) rfl (Nat.le_of_ble_eq_true rfl) (q_M_isKnot hM hn n8) (Nat.le_of_ble_eq_true rfl) (fun r_33 D_33 q_33 => ?_)
        obtain ⟨rfl, hq⟩ := q_33
        rw [if_neg hy] at hq
        subst hq
        refine b_if_eq rfl (fun c_36 => ?_) (fun c_36 => ?_)
        · refine b_iconst rfl ?_
          exact b_ireturn rfl trivial (⟨hs0, rfl⟩)
        · exact absurd rfl c_36
    · refine b_iconst rfl ?_
      refine b_iload_n rfl rfl ?_
      refine b_ishl rfl ?_
      refine b_goto rfl ?_
      refine b_istore_n rfl (Nat.le_of_ble_eq_true rfl) ?_
      refine b_iconst rfl ?_
      refine b_istore rfl (Nat.le_of_ble_eq_true rfl) ?_
      refine b_iload rfl rfl ?_
      refine b_bipush rfl ?_
      refine b_icmp_ge rfl (fun c_28 => ?_) (fun c_28 => ?_)
      · exact absurd c_28 (by decide)
      · refine b_aload_n rfl rfl ?_
        refine b_iload_n rfl rfl ?_
        refine b_callV rfl rfl hk_M_isKnot rfl rfl rfl (by first | rfl | assumption) rfl (Nat.le_of_ble_eq_true rfl) (q_M_isKnot hM hn n8) (Nat.le_of_ble_eq_true rfl) (fun r_33 D_33 q_33 => ?_)
        obtain ⟨rfl, hq⟩ := q_33
        rw [if_neg hy] at hq
        subst hq
        refine b_if_eq rfl (fun c_36 => ?_) (fun c_36 => ?_)
        · refine b_iconst rfl ?_
          exact b_ireturn rfl trivial (⟨hs0, rfl⟩)
        · exact absurd rfl c_36
theorem q_M_knot {x w : Int32} (hB : hs_B I R N Q) : hn_F 2 hm_M_knot [.ref 188, .int x, .int w] (I, J, R) (fun r D' => hs_sm I J R D' ∧ r = some (.int (v_knot N Q x w))) := by
  have n8' : N.1 ≤ 8 := hB.2.1.1.2.1
  refine hn_F_of _ hk_M_knot rfl (Nat.le_of_ble_eq_true rfl) ?_
  by_cases hx : sp_in x N.1
  · obtain ⟨k, hk, rfl⟩ := sp_in_nat hx
    rw [v_knot, sp_at_in hk n8']
    by_cases hy : (0 : Int32).toInt ≤ w.toInt ∧ w.toInt ≤ (4 : Int32).toInt
    · obtain ⟨j, hj, rfl⟩ : ∃ j : Nat, j ≤ 4 ∧ w = nI j := ⟨w.toInt.toNat, by have h1 := hy.1; have h2 := hy.2; rw [hi_t0] at h1; rw [show (4 : Int32).toInt = 4 from rfl] at h2; omega, hi_nI (by have h1 := hy.1; rw [hi_t0] at h1; omega)⟩
      rcases (show j = 2 ∨ j = 4 ∨ (j = 0 ∨ j = 1 ∨ j = 3) by omega) with rfl | rfl | hj3
      · refine b_aload_n rfl rfl ?_
        refine b_iconst rfl ?_
        refine b_putI rfl (by first | rfl | assumption) rfl rfl ⟨rfl, rfl⟩ ?_
        have hB1 := hs_B_0 (v := 0) hB
        have hs0 : hs_sm I J R (hn_u I 188 0 0, J, R) := hs_sm_0
        generalize hn_u I 188 0 0 = I0 at hB1 hs0 ⊢
        have hB2 := hB1
        obtain ⟨hR, hN, hQ, hfm, hw, hAw⟩ := hB1
        have hM := hs_M_of hR
        have hN0 := hN
        have hQ0 := hQ
        have hw0 := hw
        obtain ⟨⟨hn, n8, hnp, n4, hkn⟩, hL⟩ := hN
        obtain ⟨⟨_, hVs, hVw, hVp, hVh⟩, hVt⟩ := hQ
        simp only [Nat.zero_add] at hVs hVw hVp hVh
        obtain ⟨m1, m4, m5, m6, m9, m10, m11, m12, m14, m15, m16, m17, m20, m21, m22, m23, m25, m27, m28, m29, m30, m31, m32⟩ := id hM
        refine b_aload_n rfl rfl ?_
        refine b_iload_n rfl rfl ?_
        refine b_callV rfl rfl hk_M_isKnot rfl rfl rfl (by first | rfl | assumption) rfl (Nat.le_of_ble_eq_true rfl) (q_M_isKnot hM hn n8) (Nat.le_of_ble_eq_true rfl) (fun r_7 D_7 q_7 => ?_)
        obtain ⟨rfl, hq⟩ := q_7
        rw [if_pos hx] at hq
        subst hq
        refine b_if_eq rfl (fun c_10 => ?_) (fun c_10 => ?_)
        · exact absurd c_10 (by decide)
        · refine b_iload_n rfl rfl ?_
          refine b_iconst rfl ?_
          refine b_iconst rfl ?_
          refine b_callS rfl rfl hk_M_within rfl rfl rfl (Nat.le_of_ble_eq_true rfl) (q_M_within) (Nat.le_of_ble_eq_true rfl) (fun r_16 D_16 q_16 => ?_)
          obtain ⟨rfl, hq⟩ := q_16
          rw [if_pos hy] at hq
          subst hq
          refine b_if_ne rfl (fun c_19 => ?_) (fun c_19 => ?_)
          · refine b_iload_n rfl rfl ?_
            refine b_iconst rfl ?_
            refine b_icmp_ne rfl (fun c_26 => ?_) (fun c_26 => ?_)
            · exact absurd (show nI 2 = 2 by decide) c_26
            · refine b_aload_n rfl rfl ?_
              refine b_getR rfl (by first | rfl | assumption) rfl (by assumption) ?_
              refine b_iconst rfl ?_
              refine b_iload_n rfl rfl ?_
              refine b_iadd rfl ?_
              refine b_iaload rfl (by first | rfl | assumption) (hi_ix (1 + k) (by rw [nI_ad]; rfl) (by omega)) (by omega) ?_
              rw [hVs k (by omega)]
              refine b_goto rfl ?_
              exact b_ireturn rfl trivial (⟨hs0, rfl⟩)
          · exact absurd c_19 (by decide)
      · refine b_aload_n rfl rfl ?_
        refine b_iconst rfl ?_
        refine b_putI rfl (by first | rfl | assumption) rfl rfl ⟨rfl, rfl⟩ ?_
        have hB1 := hs_B_0 (v := 0) hB
        have hs0 : hs_sm I J R (hn_u I 188 0 0, J, R) := hs_sm_0
        generalize hn_u I 188 0 0 = I0 at hB1 hs0 ⊢
        have hB2 := hB1
        obtain ⟨hR, hN, hQ, hfm, hw, hAw⟩ := hB1
        have hM := hs_M_of hR
        have hN0 := hN
        have hQ0 := hQ
        have hw0 := hw
        obtain ⟨⟨hn, n8, hnp, n4, hkn⟩, hL⟩ := hN
        obtain ⟨⟨_, hVs, hVw, hVp, hVh⟩, hVt⟩ := hQ
        simp only [Nat.zero_add] at hVs hVw hVp hVh
        obtain ⟨m1, m4, m5, m6, m9, m10, m11, m12, m14, m15, m16, m17, m20, m21, m22, m23, m25, m27, m28, m29, m30, m31, m32⟩ := id hM
        refine b_aload_n rfl rfl ?_
        refine b_iload_n rfl rfl ?_
        refine b_callV rfl rfl hk_M_isKnot rfl rfl rfl (by first | rfl | assumption) rfl (Nat.le_of_ble_eq_true rfl) (q_M_isKnot hM hn n8) (Nat.le_of_ble_eq_true rfl) (fun r_7 D_7 q_7 => ?_)
        obtain ⟨rfl, hq⟩ := q_7
        rw [if_pos hx] at hq
        subst hq
        refine b_if_eq rfl (fun c_10 => ?_) (fun c_10 => ?_)
        · exact absurd c_10 (by decide)
        · refine b_iload_n rfl rfl ?_
          refine b_iconst rfl ?_
          refine b_iconst rfl ?_
          refine b_callS rfl rfl hk_M_within rfl rfl rfl (Nat.le_of_ble_eq_true rfl) (q_M_within) (Nat.le_of_ble_eq_true rfl) (fun r_16 D_16 q_16 => ?_)
          obtain ⟨rfl, hq⟩ := q_16
          rw [if_pos hy] at hq
          subst hq
          refine b_if_ne rfl (fun c_19 => ?_) (fun c_19 => ?_)
          · refine b_iload_n rfl rfl ?_
            refine b_iconst rfl ?_
            refine b_icmp_ne rfl (fun c_26 => ?_) (fun c_26 => ?_)
            · refine b_iload_n rfl rfl ?_
              refine b_iconst rfl ?_
              refine b_icmp_ne rfl (fun c_42 => ?_) (fun c_42 => ?_)
              · exact absurd (show nI 4 = 4 by decide) c_42
              · refine b_aload_n rfl rfl ?_
                refine b_iconst rfl ?_
                refine b_iload_n rfl rfl ?_
                refine b_callV rfl rfl hk_M_lyingAt rfl rfl rfl (by first | rfl | assumption) rfl (Nat.le_of_ble_eq_true rfl) (q_M_lyingAt hM hQ0.1 hnp n4 rfl) (Nat.le_of_ble_eq_true rfl) (fun r_48 D_48 q_48 => ?_)
                obtain ⟨rfl, rfl⟩ := q_48
                refine b_goto rfl ?_
                exact b_ireturn rfl trivial (⟨hs0, rfl⟩)
            · exact absurd c_26 (by decide)
          · exact absurd c_19 (by decide)
      · have h2 : ¬ nI j = 2 := by rcases hj3 with rfl | rfl | rfl <;> decide
        have h4 : ¬ nI j = 4 := by rcases hj3 with rfl | rfl | rfl <;> decide
        refine b_aload_n rfl rfl ?_
        refine b_iconst rfl ?_
        refine b_putI rfl (by first | rfl | assumption) rfl rfl ⟨rfl, rfl⟩ ?_
        have hB1 := hs_B_0 (v := 0) hB
        have hs0 : hs_sm I J R (hn_u I 188 0 0, J, R) := hs_sm_0
        generalize hn_u I 188 0 0 = I0 at hB1 hs0 ⊢
        have hB2 := hB1
        obtain ⟨hR, hN, hQ, hfm, hw, hAw⟩ := hB1
        have hM := hs_M_of hR
        have hN0 := hN
        have hQ0 := hQ
        have hw0 := hw
        obtain ⟨⟨hn, n8, hnp, n4, hkn⟩, hL⟩ := hN
        obtain ⟨⟨_, hVs, hVw, hVp, hVh⟩, hVt⟩ := hQ
        simp only [Nat.zero_add] at hVs hVw hVp hVh
        obtain ⟨m1, m4, m5, m6, m9, m10, m11, m12, m14, m15, m16, m17, m20, m21, m22, m23, m25, m27, m28, m29, m30, m31, m32⟩ := id hM
        refine b_aload_n rfl rfl ?_
        refine b_iload_n rfl rfl ?_
        refine b_callV rfl rfl hk_M_isKnot rfl rfl rfl (by first | rfl | assumption) rfl (Nat.le_of_ble_eq_true rfl) (q_M_isKnot hM hn n8) (Nat.le_of_ble_eq_true rfl) (fun r_7 D_7 q_7 => ?_)
        obtain ⟨rfl, hq⟩ := q_7
        rw [if_pos hx] at hq
        subst hq
        refine b_if_eq rfl (fun c_10 => ?_) (fun c_10 => ?_)
        · exact absurd c_10 (by decide)
        · refine b_iload_n rfl rfl ?_
          refine b_iconst rfl ?_
          refine b_iconst rfl ?_
          refine b_callS rfl rfl hk_M_within rfl rfl rfl (Nat.le_of_ble_eq_true rfl) (q_M_within) (Nat.le_of_ble_eq_true rfl) (fun r_16 D_16 q_16 => ?_)
          obtain ⟨rfl, hq⟩ := q_16
          rw [if_pos hy] at hq
          subst hq
          refine b_if_ne rfl (fun c_19 => ?_) (fun c_19 => ?_)
          · refine b_iload_n rfl rfl ?_
            refine b_iconst rfl ?_
            refine b_icmp_ne rfl (fun c_26 => ?_) (fun c_26 => ?_)
            · refine b_iload_n rfl rfl ?_
              refine b_iconst rfl ?_
              refine b_icmp_ne rfl (fun c_42 => ?_) (fun c_42 => ?_)
              · refine b_aload_n rfl rfl ?_
                refine b_iload_n rfl rfl ?_
                refine b_iload_n rfl rfl ?_
                refine b_callV rfl rfl hk_M_knotOf rfl rfl rfl (by first | rfl | assumption) rfl (Nat.le_of_ble_eq_true rfl) (q_M_knotOf (w := j) hM (show k < 8 by omega) rfl (by omega)) (Nat.le_of_ble_eq_true rfl) (fun r_57 D_57 q_57 => ?_)
                obtain ⟨rfl, rfl⟩ := q_57
                exact b_ireturn rfl trivial (⟨hs0, by obtain ⟨z0, z1, z3⟩ := hkn k hk; rcases hj3 with rfl | rfl | rfl; exact congrArg (fun z => some (Value.int z)) z0; exact congrArg (fun z => some (Value.int z)) ((show I0 194 (5 + 4 * k + 1) = I0 194 (6 + 4 * k) by congr 1; omega).trans z1); exact congrArg (fun z => some (Value.int z)) ((show I0 194 (5 + 4 * k + 3) = I0 194 (8 + 4 * k) by congr 1; omega).trans z3)⟩)
              · exact absurd c_42 h4
            · exact absurd c_26 h2
          · exact absurd c_19 (by decide)
    · have hno : ∀ j : Nat, j ≤ 4 → ¬ w = nI j := fun j hj e => hy (by rw [e, nI_toInt (by omega), hi_t0, show (4 : Int32).toInt = 4 from rfl]; omega)
      rw [if_neg (show ¬ w = 0 from hno 0 (by omega)), if_neg (show ¬ w = 1 from hno 1 (by omega)), if_neg (show ¬ w = 2 from hno 2 (by omega)), if_neg (show ¬ w = 3 from hno 3 (by omega)), if_neg (show ¬ w = 4 from hno 4 (by omega))]
      refine b_aload_n rfl rfl ?_
      refine b_iconst rfl ?_
      refine b_putI rfl (by first | rfl | assumption) rfl rfl ⟨rfl, rfl⟩ ?_
      have hB1 := hs_B_0 (v := 0) hB
      have hs0 : hs_sm I J R (hn_u I 188 0 0, J, R) := hs_sm_0
      generalize hn_u I 188 0 0 = I0 at hB1 hs0 ⊢
      have hB2 := hB1
      obtain ⟨hR, hN, hQ, hfm, hw, hAw⟩ := hB1
      have hM := hs_M_of hR
      have hN0 := hN
      have hQ0 := hQ
      have hw0 := hw
      obtain ⟨⟨hn, n8, hnp, n4, hkn⟩, hL⟩ := hN
      obtain ⟨⟨_, hVs, hVw, hVp, hVh⟩, hVt⟩ := hQ
      simp only [Nat.zero_add] at hVs hVw hVp hVh
      obtain ⟨m1, m4, m5, m6, m9, m10, m11, m12, m14, m15, m16, m17, m20, m21, m22, m23, m25, m27, m28, m29, m30, m31, m32⟩ := id hM
      refine b_aload_n rfl rfl ?_
      refine b_iload_n rfl rfl ?_
      refine b_callV rfl rfl hk_M_isKnot rfl rfl rfl (by first | rfl | assumption) rfl (Nat.le_of_ble_eq_true rfl) (q_M_isKnot hM hn n8) (Nat.le_of_ble_eq_true rfl) (fun r_7 D_7 q_7 => ?_)
      obtain ⟨rfl, hq⟩ := q_7
      rw [if_pos hx] at hq
      subst hq
      refine b_if_eq rfl (fun c_10 => ?_) (fun c_10 => ?_)
      · exact absurd c_10 (by decide)
      · refine b_iload_n rfl rfl ?_
        refine b_iconst rfl ?_
        refine b_iconst rfl ?_
        refine b_callS rfl rfl hk_M_within rfl rfl rfl (Nat.le_of_ble_eq_true rfl) (q_M_within) (Nat.le_of_ble_eq_true rfl) (fun r_16 D_16 q_16 => ?_)
        obtain ⟨rfl, hq⟩ := q_16
        rw [if_neg hy] at hq
        subst hq
        refine b_if_ne rfl (fun c_19 => ?_) (fun c_19 => ?_)
        · exact absurd rfl c_19
        · refine b_iconst rfl ?_
          exact b_ireturn rfl trivial (⟨hs0, rfl⟩)
  · rw [v_knot, sp_at_out hx]
    refine b_aload_n rfl rfl ?_
    refine b_iconst rfl ?_
    refine b_putI rfl (by first | rfl | assumption) rfl rfl ⟨rfl, rfl⟩ ?_
    have hB1 := hs_B_0 (v := 0) hB
    have hs0 : hs_sm I J R (hn_u I 188 0 0, J, R) := hs_sm_0
    generalize hn_u I 188 0 0 = I0 at hB1 hs0 ⊢
    have hB2 := hB1
    obtain ⟨hR, hN, hQ, hfm, hw, hAw⟩ := hB1
    have hM := hs_M_of hR
    have hN0 := hN
    have hQ0 := hQ
    have hw0 := hw
    obtain ⟨⟨hn, n8, hnp, n4, hkn⟩, hL⟩ := hN
    obtain ⟨⟨_, hVs, hVw, hVp, hVh⟩, hVt⟩ := hQ
    simp only [Nat.zero_add] at hVs hVw hVp hVh
    obtain ⟨m1, m4, m5, m6, m9, m10, m11, m12, m14, m15, m16, m17, m20, m21, m22, m23, m25, m27, m28, m29, m30, m31, m32⟩ := id hM
    refine b_aload_n rfl rfl ?_
    refine b_iload_n rfl rfl ?_
    refine b_callV rfl rfl hk_M_isKnot rfl rfl rfl (by first | rfl | assumption) rfl (Nat.le_of_ble_eq_true rfl) (q_M_isKnot hM hn n8) (Nat.le_of_ble_eq_true rfl) (fun r_7 D_7 q_7 => ?_)
    obtain ⟨rfl, hq⟩ := q_7
    rw [if_neg hx] at hq
    subst hq
    refine b_if_eq rfl (fun c_10 => ?_) (fun c_10 => ?_)
    · refine b_iconst rfl ?_
      exact b_ireturn rfl trivial (⟨hs0, rfl⟩)
    · exact absurd rfl c_10
theorem q_M_person {x w : Int32} (hB : hs_B I R N Q) : hn_F 2 hm_M_person [.ref 188, .int x, .int w] (I, J, R) (fun r D' => hs_sm I J R D' ∧ r = some (.int (v_person N Q x w))) := by
  have n8' : N.1 ≤ 8 := hB.2.1.1.2.1
  have n4' : N.2.1 ≤ 4 := hB.2.1.1.2.2.2.1
  refine hn_F_of _ hk_M_person rfl (Nat.le_of_ble_eq_true rfl) ?_
  by_cases hx : sp_in x N.2.1
  · obtain ⟨k, hk, rfl⟩ := sp_in_nat hx
    rw [v_person, sp_at_in hk (by omega)]
    by_cases hy : (0 : Int32).toInt ≤ w.toInt ∧ w.toInt ≤ (3 : Int32).toInt
    · obtain ⟨j, hj, rfl⟩ : ∃ j : Nat, j ≤ 3 ∧ w = nI j := ⟨w.toInt.toNat, by have h1 := hy.1; have h2 := hy.2; rw [hi_t0] at h1; rw [show (3 : Int32).toInt = 3 from rfl] at h2; omega, hi_nI (by have h1 := hy.1; rw [hi_t0] at h1; omega)⟩
      rcases (show j = 0 ∨ j = 1 ∨ j = 2 ∨ j = 3 by omega) with rfl | rfl | rfl | rfl
      · refine b_aload_n rfl rfl ?_
        refine b_iconst rfl ?_
        refine b_putI rfl (by first | rfl | assumption) rfl rfl ⟨rfl, rfl⟩ ?_
        have hB1 := hs_B_0 (v := 0) hB
        have hs0 : hs_sm I J R (hn_u I 188 0 0, J, R) := hs_sm_0
        generalize hn_u I 188 0 0 = I0 at hB1 hs0 ⊢
        have hB2 := hB1
        obtain ⟨hR, hN, hQ, hfm, hw, hAw⟩ := hB1
        have hM := hs_M_of hR
        have hN0 := hN
        have hQ0 := hQ
        have hw0 := hw
        obtain ⟨⟨hn, n8, hnp, n4, hkn⟩, hL⟩ := hN
        obtain ⟨⟨_, hVs, hVw, hVp, hVh⟩, hVt⟩ := hQ
        simp only [Nat.zero_add] at hVs hVw hVp hVh
        obtain ⟨m1, m4, m5, m6, m9, m10, m11, m12, m14, m15, m16, m17, m20, m21, m22, m23, m25, m27, m28, m29, m30, m31, m32⟩ := id hM
        refine b_aload_n rfl rfl ?_
        refine b_iload_n rfl rfl ?_
        refine b_callV rfl rfl hk_M_isPerson rfl rfl rfl (by first | rfl | assumption) rfl (Nat.le_of_ble_eq_true rfl) (q_M_isPerson hM hnp n4) (Nat.le_of_ble_eq_true rfl) (fun r_7 D_7 q_7 => ?_)
        obtain ⟨rfl, hq⟩ := q_7
        rw [if_pos hx] at hq
        subst hq
        refine b_if_eq rfl (fun c_10 => ?_) (fun c_10 => ?_)
        · exact absurd c_10 (by decide)
        · refine b_iload_n rfl rfl ?_
          refine b_iconst rfl ?_
          refine b_iconst rfl ?_
          refine b_callS rfl rfl hk_M_within rfl rfl rfl (Nat.le_of_ble_eq_true rfl) (q_M_within) (Nat.le_of_ble_eq_true rfl) (fun r_16 D_16 q_16 => ?_)
          obtain ⟨rfl, hq⟩ := q_16
          rw [if_pos hy] at hq
          subst hq
          refine b_if_ne rfl (fun c_19 => ?_) (fun c_19 => ?_)
          · refine b_iload_n rfl rfl ?_
            refine b_if_ne rfl (fun c_26 => ?_) (fun c_26 => ?_)
            · exact absurd (show nI 0 = 0 by decide) c_26
            · refine b_aload_n rfl rfl ?_
              refine b_getR rfl (by first | rfl | assumption) rfl (by assumption) ?_
              refine b_bipush rfl ?_
              refine b_iload_n rfl rfl ?_
              refine b_iadd rfl ?_
              refine b_iaload rfl (by first | rfl | assumption) (hi_ix (9 + k) (by rw [nI_ad]; rfl) (by omega)) (by omega) ?_
              rw [hVw k (by omega)]
              refine b_goto rfl ?_
              exact b_ireturn rfl trivial (⟨hs0, rfl⟩)
          · exact absurd c_19 (by decide)
      · refine b_aload_n rfl rfl ?_
        refine b_iconst rfl ?_
        refine b_putI rfl (by first | rfl | assumption) rfl rfl ⟨rfl, rfl⟩ ?_
        have hB1 := hs_B_0 (v := 0) hB
        have hs0 : hs_sm I J R (hn_u I 188 0 0, J, R) := hs_sm_0
        generalize hn_u I 188 0 0 = I0 at hB1 hs0 ⊢
        have hB2 := hB1
        obtain ⟨hR, hN, hQ, hfm, hw, hAw⟩ := hB1
        have hM := hs_M_of hR
        have hN0 := hN
        have hQ0 := hQ
        have hw0 := hw
        obtain ⟨⟨hn, n8, hnp, n4, hkn⟩, hL⟩ := hN
        obtain ⟨⟨_, hVs, hVw, hVp, hVh⟩, hVt⟩ := hQ
        simp only [Nat.zero_add] at hVs hVw hVp hVh
        obtain ⟨m1, m4, m5, m6, m9, m10, m11, m12, m14, m15, m16, m17, m20, m21, m22, m23, m25, m27, m28, m29, m30, m31, m32⟩ := id hM
        refine b_aload_n rfl rfl ?_
        refine b_iload_n rfl rfl ?_
        refine b_callV rfl rfl hk_M_isPerson rfl rfl rfl (by first | rfl | assumption) rfl (Nat.le_of_ble_eq_true rfl) (q_M_isPerson hM hnp n4) (Nat.le_of_ble_eq_true rfl) (fun r_7 D_7 q_7 => ?_)
        obtain ⟨rfl, hq⟩ := q_7
        rw [if_pos hx] at hq
        subst hq
        refine b_if_eq rfl (fun c_10 => ?_) (fun c_10 => ?_)
        · exact absurd c_10 (by decide)
        · refine b_iload_n rfl rfl ?_
          refine b_iconst rfl ?_
          refine b_iconst rfl ?_
          refine b_callS rfl rfl hk_M_within rfl rfl rfl (Nat.le_of_ble_eq_true rfl) (q_M_within) (Nat.le_of_ble_eq_true rfl) (fun r_16 D_16 q_16 => ?_)
          obtain ⟨rfl, hq⟩ := q_16
          rw [if_pos hy] at hq
          subst hq
          refine b_if_ne rfl (fun c_19 => ?_) (fun c_19 => ?_)
          · refine b_iload_n rfl rfl ?_
            refine b_if_ne rfl (fun c_26 => ?_) (fun c_26 => ?_)
            · refine b_iload_n rfl rfl ?_
              refine b_iconst rfl ?_
              refine b_icmp_ne rfl (fun c_43 => ?_) (fun c_43 => ?_)
              · exact absurd (show nI 1 = 1 by decide) c_43
              · refine b_aload_n rfl rfl ?_
                refine b_getR rfl (by first | rfl | assumption) rfl (by assumption) ?_
                refine b_bipush rfl ?_
                refine b_iload_n rfl rfl ?_
                refine b_iadd rfl ?_
                refine b_iaload rfl (by first | rfl | assumption) (hi_ix (13 + k) (by rw [nI_ad]; rfl) (by omega)) (by omega) ?_
                rw [hVp k (by omega)]
                refine b_goto rfl ?_
                exact b_ireturn rfl trivial (⟨hs0, rfl⟩)
            · exact absurd c_26 (by decide)
          · exact absurd c_19 (by decide)
      · refine b_aload_n rfl rfl ?_
        refine b_iconst rfl ?_
        refine b_putI rfl (by first | rfl | assumption) rfl rfl ⟨rfl, rfl⟩ ?_
        have hB1 := hs_B_0 (v := 0) hB
        have hs0 : hs_sm I J R (hn_u I 188 0 0, J, R) := hs_sm_0
        generalize hn_u I 188 0 0 = I0 at hB1 hs0 ⊢
        have hB2 := hB1
        obtain ⟨hR, hN, hQ, hfm, hw, hAw⟩ := hB1
        have hM := hs_M_of hR
        have hN0 := hN
        have hQ0 := hQ
        have hw0 := hw
        obtain ⟨⟨hn, n8, hnp, n4, hkn⟩, hL⟩ := hN
        obtain ⟨⟨_, hVs, hVw, hVp, hVh⟩, hVt⟩ := hQ
        simp only [Nat.zero_add] at hVs hVw hVp hVh
        obtain ⟨m1, m4, m5, m6, m9, m10, m11, m12, m14, m15, m16, m17, m20, m21, m22, m23, m25, m27, m28, m29, m30, m31, m32⟩ := id hM
        refine b_aload_n rfl rfl ?_
        refine b_iload_n rfl rfl ?_
        refine b_callV rfl rfl hk_M_isPerson rfl rfl rfl (by first | rfl | assumption) rfl (Nat.le_of_ble_eq_true rfl) (q_M_isPerson hM hnp n4) (Nat.le_of_ble_eq_true rfl) (fun r_7 D_7 q_7 => ?_)
        obtain ⟨rfl, hq⟩ := q_7
        rw [if_pos hx] at hq
        subst hq
        refine b_if_eq rfl (fun c_10 => ?_) (fun c_10 => ?_)
        · exact absurd c_10 (by decide)
        · refine b_iload_n rfl rfl ?_
          refine b_iconst rfl ?_
          refine b_iconst rfl ?_
          refine b_callS rfl rfl hk_M_within rfl rfl rfl (Nat.le_of_ble_eq_true rfl) (q_M_within) (Nat.le_of_ble_eq_true rfl) (fun r_16 D_16 q_16 => ?_)
          obtain ⟨rfl, hq⟩ := q_16
          rw [if_pos hy] at hq
          subst hq
          refine b_if_ne rfl (fun c_19 => ?_) (fun c_19 => ?_)
          · refine b_iload_n rfl rfl ?_
            refine b_if_ne rfl (fun c_26 => ?_) (fun c_26 => ?_)
            · refine b_iload_n rfl rfl ?_
              refine b_iconst rfl ?_
              refine b_icmp_ne rfl (fun c_43 => ?_) (fun c_43 => ?_)
              · refine b_iload_n rfl rfl ?_
                refine b_iconst rfl ?_
                refine b_icmp_ne rfl (fun c_60 => ?_) (fun c_60 => ?_)
                · exact absurd (show nI 2 = 2 by decide) c_60
                · refine b_aload_n rfl rfl ?_
                  refine b_getR rfl (by first | rfl | assumption) rfl (by assumption) ?_
                  refine b_bipush rfl ?_
                  refine b_iload_n rfl rfl ?_
                  refine b_iadd rfl ?_
                  refine b_iaload rfl (by first | rfl | assumption) (hi_ix (17 + k) (by rw [nI_ad]; rfl) (by omega)) (by omega) ?_
                  rw [hVh k (by omega)]
                  refine b_goto rfl ?_
                  exact b_ireturn rfl trivial (⟨hs0, rfl⟩)
              · exact absurd c_43 (by decide)
            · exact absurd c_26 (by decide)
          · exact absurd c_19 (by decide)
      · refine b_aload_n rfl rfl ?_
        refine b_iconst rfl ?_
        refine b_putI rfl (by first | rfl | assumption) rfl rfl ⟨rfl, rfl⟩ ?_
        have hB1 := hs_B_0 (v := 0) hB
        have hs0 : hs_sm I J R (hn_u I 188 0 0, J, R) := hs_sm_0
        generalize hn_u I 188 0 0 = I0 at hB1 hs0 ⊢
        have hB2 := hB1
        obtain ⟨hR, hN, hQ, hfm, hw, hAw⟩ := hB1
        have hM := hs_M_of hR
        have hN0 := hN
        have hQ0 := hQ
        have hw0 := hw
        obtain ⟨⟨hn, n8, hnp, n4, hkn⟩, hL⟩ := hN
        obtain ⟨⟨_, hVs, hVw, hVp, hVh⟩, hVt⟩ := hQ
        simp only [Nat.zero_add] at hVs hVw hVp hVh
        obtain ⟨m1, m4, m5, m6, m9, m10, m11, m12, m14, m15, m16, m17, m20, m21, m22, m23, m25, m27, m28, m29, m30, m31, m32⟩ := id hM
        refine b_aload_n rfl rfl ?_
        refine b_iload_n rfl rfl ?_
        refine b_callV rfl rfl hk_M_isPerson rfl rfl rfl (by first | rfl | assumption) rfl (Nat.le_of_ble_eq_true rfl) (q_M_isPerson hM hnp n4) (Nat.le_of_ble_eq_true rfl) (fun r_7 D_7 q_7 => ?_)
        obtain ⟨rfl, hq⟩ := q_7
        rw [if_pos hx] at hq
        subst hq
        refine b_if_eq rfl (fun c_10 => ?_) (fun c_10 => ?_)
        · exact absurd c_10 (by decide)
        · refine b_iload_n rfl rfl ?_
          refine b_iconst rfl ?_
          refine b_iconst rfl ?_
          refine b_callS rfl rfl hk_M_within rfl rfl rfl (Nat.le_of_ble_eq_true rfl) (q_M_within) (Nat.le_of_ble_eq_true rfl) (fun r_16 D_16 q_16 => ?_)
          obtain ⟨rfl, hq⟩ := q_16
          rw [if_pos hy] at hq
          subst hq
          refine b_if_ne rfl (fun c_19 => ?_) (fun c_19 => ?_)
          · refine b_iload_n rfl rfl ?_
            refine b_if_ne rfl (fun c_26 => ?_) (fun c_26 => ?_)
            · refine b_iload_n rfl rfl ?_
              refine b_iconst rfl ?_
              refine b_icmp_ne rfl (fun c_43 => ?_) (fun c_43 => ?_)
              · refine b_iload_n rfl rfl ?_
                refine b_iconst rfl ?_
                refine b_icmp_ne rfl (fun c_60 => ?_) (fun c_60 => ?_)
                · refine b_aload_n rfl rfl ?_
                  refine b_iconst rfl ?_
                  refine b_iload_n rfl rfl ?_
                  refine b_callV rfl rfl hk_M_doesLie rfl rfl rfl (by first | rfl | assumption) rfl (Nat.le_of_ble_eq_true rfl) (q_M_doesLie hM hQ0.1 n8 hw0.1 (show k < 4 by omega) rfl) (Nat.le_of_ble_eq_true rfl) (fun r_78 D_78 q_78 => ?_)
                  obtain ⟨rfl, rfl⟩ := q_78
                  refine b_if_ne rfl (fun c_81 => ?_) (fun c_81 => ?_)
                  · refine b_aload_n rfl rfl ?_
                    refine b_iconst rfl ?_
                    refine b_iload_n rfl rfl ?_
                    refine b_callV rfl rfl hk_M_isAwake rfl rfl rfl (by first | rfl | assumption) rfl (Nat.le_of_ble_eq_true rfl) (q_M_isAwake hM hQ0.1 n8 hw0.1 (show k < 4 by omega) rfl) (Nat.le_of_ble_eq_true rfl) (fun r_91 D_91 q_91 => ?_)
                    obtain ⟨rfl, rfl⟩ := q_91
                    refine b_if_eq rfl (fun c_94 => ?_) (fun c_94 => ?_)
                    · refine b_iconst rfl ?_
                      exact b_ireturn rfl trivial (⟨hs0, by rw [if_neg (show ¬ nI 3 = 0 by decide), if_neg (show ¬ nI 3 = 1 by decide), if_neg (show ¬ nI 3 = 2 by decide), if_pos (show nI 3 = 3 by decide)]; first | rw [if_neg (fun z => c_81 (if_pos z)), if_neg (if01_z.mp c_94)] | rw [if_neg (fun z => c_81 (if_pos z)), if_pos (if01_n c_94)] | rw [if_pos (Decidable.byContradiction (fun z => absurd ((if_neg z).symm.trans c_81) (by decide)))]⟩)
                    · refine b_iconst rfl ?_
                      refine b_goto rfl ?_
                      exact b_ireturn rfl trivial (⟨hs0, by rw [if_neg (show ¬ nI 3 = 0 by decide), if_neg (show ¬ nI 3 = 1 by decide), if_neg (show ¬ nI 3 = 2 by decide), if_pos (show nI 3 = 3 by decide)]; first | rw [if_neg (fun z => c_81 (if_pos z)), if_neg (if01_z.mp c_94)] | rw [if_neg (fun z => c_81 (if_pos z)), if_pos (if01_n c_94)] | rw [if_pos (Decidable.byContradiction (fun z => absurd ((if_neg z).symm.trans c_81) (by decide)))]⟩)
                  · refine b_iconst rfl ?_
                    refine b_goto rfl ?_
                    exact b_ireturn rfl trivial (⟨hs0, by rw [if_neg (show ¬ nI 3 = 0 by decide), if_neg (show ¬ nI 3 = 1 by decide), if_neg (show ¬ nI 3 = 2 by decide), if_pos (show nI 3 = 3 by decide)]; first | rw [if_neg (fun z => c_81 (if_pos z)), if_neg (if01_z.mp c_94)] | rw [if_neg (fun z => c_81 (if_pos z)), if_pos (if01_n c_94)] | rw [if_pos (Decidable.byContradiction (fun z => absurd ((if_neg z).symm.trans c_81) (by decide)))]⟩)
                · exact absurd c_60 (by decide)
              · exact absurd c_43 (by decide)
            · exact absurd c_26 (by decide)
          · exact absurd c_19 (by decide)
    · have hno : ∀ j : Nat, j ≤ 3 → ¬ w = nI j := fun j hj e => hy (by rw [e, nI_toInt (by omega), hi_t0, show (3 : Int32).toInt = 3 from rfl]; omega)
      rw [if_neg (show ¬ w = 0 from hno 0 (by omega)), if_neg (show ¬ w = 1 from hno 1 (by omega)), if_neg (show ¬ w = 2 from hno 2 (by omega)), if_neg (show ¬ w = 3 from hno 3 (by omega))]
      refine b_aload_n rfl rfl ?_
      refine b_iconst rfl ?_
      refine b_putI rfl (by first | rfl | assumption) rfl rfl ⟨rfl, rfl⟩ ?_
      have hB1 := hs_B_0 (v := 0) hB
      have hs0 : hs_sm I J R (hn_u I 188 0 0, J, R) := hs_sm_0
      generalize hn_u I 188 0 0 = I0 at hB1 hs0 ⊢
      have hB2 := hB1
      obtain ⟨hR, hN, hQ, hfm, hw, hAw⟩ := hB1
      have hM := hs_M_of hR
      have hN0 := hN
      have hQ0 := hQ
      have hw0 := hw
      obtain ⟨⟨hn, n8, hnp, n4, hkn⟩, hL⟩ := hN
      obtain ⟨⟨_, hVs, hVw, hVp, hVh⟩, hVt⟩ := hQ
      simp only [Nat.zero_add] at hVs hVw hVp hVh
      obtain ⟨m1, m4, m5, m6, m9, m10, m11, m12, m14, m15, m16, m17, m20, m21, m22, m23, m25, m27, m28, m29, m30, m31, m32⟩ := id hM
      refine b_aload_n rfl rfl ?_
      refine b_iload_n rfl rfl ?_
      refine b_callV rfl rfl hk_M_isPerson rfl rfl rfl (by first | rfl | assumption) rfl (Nat.le_of_ble_eq_true rfl) (q_M_isPerson hM hnp n4) (Nat.le_of_ble_eq_true rfl) (fun r_7 D_7 q_7 => ?_)
      obtain ⟨rfl, hq⟩ := q_7
      rw [if_pos hx] at hq
      subst hq
      refine b_if_eq rfl (fun c_10 => ?_) (fun c_10 => ?_)
      · exact absurd c_10 (by decide)
      · refine b_iload_n rfl rfl ?_
        refine b_iconst rfl ?_
        refine b_iconst rfl ?_
        refine b_callS rfl rfl hk_M_within rfl rfl rfl (Nat.le_of_ble_eq_true rfl) (q_M_within) (Nat.le_of_ble_eq_true rfl) (fun r_16 D_16 q_16 => ?_)
        obtain ⟨rfl, hq⟩ := q_16
        rw [if_neg hy] at hq
        subst hq
        refine b_if_ne rfl (fun c_19 => ?_) (fun c_19 => ?_)
        · exact absurd rfl c_19
        · refine b_bipush rfl ?_
          exact b_ireturn rfl trivial (⟨hs0, rfl⟩)
  · rw [v_person, sp_at_out hx]
    refine b_aload_n rfl rfl ?_
    refine b_iconst rfl ?_
    refine b_putI rfl (by first | rfl | assumption) rfl rfl ⟨rfl, rfl⟩ ?_
    have hB1 := hs_B_0 (v := 0) hB
    have hs0 : hs_sm I J R (hn_u I 188 0 0, J, R) := hs_sm_0
    generalize hn_u I 188 0 0 = I0 at hB1 hs0 ⊢
    have hB2 := hB1
    obtain ⟨hR, hN, hQ, hfm, hw, hAw⟩ := hB1
    have hM := hs_M_of hR
    have hN0 := hN
    have hQ0 := hQ
    have hw0 := hw
    obtain ⟨⟨hn, n8, hnp, n4, hkn⟩, hL⟩ := hN
    obtain ⟨⟨_, hVs, hVw, hVp, hVh⟩, hVt⟩ := hQ
    simp only [Nat.zero_add] at hVs hVw hVp hVh
    obtain ⟨m1, m4, m5, m6, m9, m10, m11, m12, m14, m15, m16, m17, m20, m21, m22, m23, m25, m27, m28, m29, m30, m31, m32⟩ := id hM
    refine b_aload_n rfl rfl ?_
    refine b_iload_n rfl rfl ?_
    refine b_callV rfl rfl hk_M_isPerson rfl rfl rfl (by first | rfl | assumption) rfl (Nat.le_of_ble_eq_true rfl) (q_M_isPerson hM hnp n4) (Nat.le_of_ble_eq_true rfl) (fun r_7 D_7 q_7 => ?_)
    obtain ⟨rfl, hq⟩ := q_7
    rw [if_neg hx] at hq
    subst hq
    refine b_if_eq rfl (fun c_10 => ?_) (fun c_10 => ?_)
    · refine b_bipush rfl ?_
      exact b_ireturn rfl trivial (⟨hs0, rfl⟩)
    · exact absurd rfl c_10
end HNmrest
