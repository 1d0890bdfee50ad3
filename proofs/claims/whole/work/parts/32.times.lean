section HNtimes
variable {I I' : Nat → Nat → Int32} {J J' : Nat → Nat → Int64} {R : Nat → Nat → Option Nat} {t : Nat} {N : sp_N} {Q Q' : sp_Q}
abbrev sp_w60 (y : Int32) : Prop := 0 ≤ y.toInt ∧ y.toInt ≤ 60
def v_later (N : sp_N) (Q : sp_Q) (x y : Int32) : Int32 := sp_at x N.2.1 (fun p => if sp_w60 y then qP (sp_hrs N Q y.toNatClampNeg) p else -2) (-2)
theorem sp_w60_nat {y : Int32} (h : sp_w60 y) : ∃ m, m ≤ 60 ∧ y = nI m := ⟨y.toInt.toNat, by have := h.1; have := h.2; omega, hi_nI (by have := h.1; omega)⟩
theorem q_X_later {x y : Int32} (hA : hs_A I R t N Q) : hn_F 6 hm_X_later [.ref 0, .int x, .int y] (I, J, R) (fun r D' => hs_sx t I J R D' ∧ r = some (.int (v_later N Q x y))) := by
  have hA0 := hA
  obtain ⟨hR, r2, ht, hN, hX, hw, hz, hAw⟩ := hA
  have hN0 := hN
  have hX0 := hX
  have hw0 := hw
  obtain ⟨n0, n8, n4, nk, nh, na, hc, ncd⟩ := hN
  obtain ⟨x1, x2, x3, x4, x5, x6, x7⟩ := hX
  obtain ⟨r6, r7, r8, r11, r12, r13, r14, r15, r16, r17, r18⟩ := hs_x0 hR
  have hSt := hs_St_of hR (show 44 ∈ hs_sc by decide)
  have hNt := hs_Net_of hR ht
  obtain ⟨_, sk0, sk1, sk2, sk3, sk4, g0, g1, g2, g3⟩ := id hSt
  obtain ⟨tt5, tn0, tn1, tn2, tn3, tn4, tn5, tn6, tn7, tn8, tn9, tn10, ts1, ts2, ts3, ts4, ts5, ts7, ts8, tl0, tl2, tl6, tl7⟩ := id hNt
  have hSt9 := hs_St_of hR (show 49 ∈ hs_sc by decide)
  obtain ⟨_, uk0, uk1, uk2, uk3, uk4, u0, u1, u2, u3⟩ := id hSt9
  have e1 := hi_lt (x := y) (y := 0) rfl hi_t0
  have e2 := hi_lt (x := 60) (y := y) rfl rfl
  rw [show (60 : Int32).toInt = 60 from rfl] at e2
  refine hn_F_of _ hk_X_later rfl (Nat.le_of_ble_eq_true rfl) ?_
  by_cases hx : sp_in x N.2.1
  · obtain ⟨p, hp, rfl⟩ := sp_in_nat hx
    rw [v_later, sp_at_in hp (by omega)]
    by_cases hy : sp_w60 y
    · rw [if_pos hy]
      obtain ⟨m, hm, rfl⟩ := sp_w60_nat hy
      rw [nI_clamp (by omega)]
      have L34 : ∀ I', hs_xt t N I (sp_hrs N Q 0) 0 I' → hn_B 6 hm_X_later (fun r D' => hs_sx t I J R D' ∧ r = some (.int (qP (sp_hrs N Q m) p))) 34 [.ref 0, .int (nI p), .int (nI m), .int (nI 0)] [] (I', J, R) := by
        refine sp_ind m (fun i => ∀ I', hs_xt t N I (sp_hrs N Q i) 0 I' → hn_B 6 hm_X_later (fun r D' => hs_sx t I J R D' ∧ r = some (.int (qP (sp_hrs N Q m) p))) 34 [.ref 0, .int (nI p), .int (nI m), .int (nI i)] [] (I', J, R)) ?_ ?_
        · intro I' h
          refine b_iload_n rfl rfl ?_
          refine b_iload_n rfl rfl ?_
          refine b_icmp_ge rfl (fun c_36 => ?_) (fun c_36 => ?_)
          · refine b_aload_n rfl rfl ?_
            refine b_getR rfl (by first | rfl | assumption) rfl (by assumption) ?_
            refine b_getR rfl (by first | rfl | assumption) rfl (by assumption) ?_
            refine b_iload_n rfl rfl ?_
            refine b_iaload rfl (by first | rfl | assumption) (by first | assumption | exact nI_toInt (by omega) | exact hi_l0 | exact hi_l1 | exact hi_l2 | exact hi_l3 | exact hi_l4 | exact hi_l5 | exact hi_l6) (by omega) ?_
            rw [P3_p h.2.1.2.2.1 (by omega)]
            exact b_ireturn rfl trivial (⟨hs_xt_sx hA0 h, rfl⟩)
          · exact absurd (nI_le (Nat.le_refl _) (by omega)) c_36
        · intro i hi ih I' h
          refine b_iload_n rfl rfl ?_
          refine b_iload_n rfl rfl ?_
          refine b_icmp_ge rfl (fun c_36 => ?_) (fun c_36 => ?_)
          · exact absurd c_36 (nI_ge hi (by omega))
          · refine b_aload_n rfl rfl ?_
            refine b_getR rfl (by first | rfl | assumption) rfl (by assumption) ?_
            refine b_aload_n rfl rfl ?_
            refine b_getR rfl (by first | rfl | assumption) rfl (by assumption) ?_
            refine b_iconst rfl ?_
            refine b_callV rfl rfl hk_State_passHour rfl rfl rfl (by first | rfl | assumption) rfl (Nat.le_of_ble_eq_true rfl) (qx_th hA0 h) (Nat.le_of_ble_eq_true rfl) (fun r_48 D_48 q_48 => ?_)
            obtain ⟨⟨I2, rfl, h2⟩, rfl⟩ := q_48
            refine b_pop rfl rfl ?_
            refine b_iinc rfl rfl (Nat.le_of_ble_eq_true rfl) ?_
            refine b_goto rfl ?_
            exact b_eq (ih I2 h2) (by rw [nI_succ]; rfl) rfl rfl
      refine b_aload_n rfl rfl ?_
      refine b_iload_n rfl rfl ?_
      refine b_callV rfl rfl hk_X_isPerson rfl rfl rfl (by first | rfl | assumption) rfl (Nat.le_of_ble_eq_true rfl) (q_X_isPerson hA0) (Nat.le_of_ble_eq_true rfl) (fun r_2 D_2 q_2 => ?_)
      obtain ⟨rfl, hq⟩ := q_2
      rw [if_pos hx] at hq
      subst hq
      refine b_if_eq rfl (fun c_5 => ?_) (fun c_5 => ?_)
      · exact absurd c_5 (by decide)
      · refine b_iload_n rfl rfl ?_
        refine b_if_lt rfl (fun c_9 => ?_) (fun c_9 => ?_)
        · exact absurd (e1.mp c_9) (by have := hy.1; omega)
        · refine b_iload_n rfl rfl ?_
          refine b_bipush rfl ?_
          refine b_icmp_le rfl (fun c_15 => ?_) (fun c_15 => ?_)
          · refine b_aload_n rfl rfl ?_
            refine b_getR rfl (by first | rfl | assumption) rfl (by assumption) ?_
            refine b_aload_n rfl rfl ?_
            refine b_getR rfl (by first | rfl | assumption) rfl (by assumption) ?_
            refine b_callV rfl rfl hk_State_copy rfl rfl rfl (by first | rfl | assumption) rfl (Nat.le_of_ble_eq_true rfl) (qx_tc hA0 (fun _ _ => rfl) hz rfl) (Nat.le_of_ble_eq_true rfl) (fun r_29 D_29 q_29 => ?_)
            obtain ⟨rfl, I1, rfl, h1⟩ := q_29
            refine b_iconst rfl ?_
            refine b_istore_n rfl (Nat.le_of_ble_eq_true rfl) ?_
            exact b_eq (L34 I1 h1) (by rw [nI_0]; rfl) rfl rfl
          · exact absurd (e2.mp (Int32.not_le.mp c_15)) (by have := hy.2; omega)
    · rw [if_neg hy]
      refine b_aload_n rfl rfl ?_
      refine b_iload_n rfl rfl ?_
      refine b_callV rfl rfl hk_X_isPerson rfl rfl rfl (by first | rfl | assumption) rfl (Nat.le_of_ble_eq_true rfl) (q_X_isPerson hA0) (Nat.le_of_ble_eq_true rfl) (fun r_2 D_2 q_2 => ?_)
      obtain ⟨rfl, hq⟩ := q_2
      rw [if_pos hx] at hq
      subst hq
      refine b_if_eq rfl (fun c_5 => ?_) (fun c_5 => ?_)
      · exact absurd c_5 (by decide)
      · refine b_iload_n rfl rfl ?_
        refine b_if_lt rfl (fun c_9 => ?_) (fun c_9 => ?_)
        · refine b_bipush rfl ?_
          exact b_ireturn rfl trivial (⟨hs_sx_r hz, rfl⟩)
        · refine b_iload_n rfl rfl ?_
          refine b_bipush rfl ?_
          refine b_icmp_le rfl (fun c_15 => ?_) (fun c_15 => ?_)
          · exact absurd (And.intro (by have := mt e1.mpr c_9; omega) (by have := mt e2.mpr (Int32.not_lt.mpr c_15); omega)) hy
          · refine b_bipush rfl ?_
            exact b_ireturn rfl trivial (⟨hs_sx_r hz, rfl⟩)
  · rw [v_later, sp_at_out hx]
    refine b_aload_n rfl rfl ?_
    refine b_iload_n rfl rfl ?_
    refine b_callV rfl rfl hk_X_isPerson rfl rfl rfl (by first | rfl | assumption) rfl (Nat.le_of_ble_eq_true rfl) (q_X_isPerson hA0) (Nat.le_of_ble_eq_true rfl) (fun r_2 D_2 q_2 => ?_)
    obtain ⟨rfl, hq⟩ := q_2
    rw [if_neg hx] at hq
    subst hq
    refine b_if_eq rfl (fun c_5 => ?_) (fun c_5 => ?_)
    · refine b_bipush rfl ?_
      exact b_ireturn rfl trivial (⟨hs_sx_r hz, rfl⟩)
    · exact absurd rfl c_5
theorem q_M_later {x y : Int32} (hB : hs_B I R N Q) : hn_F 5 hm_M_later [.ref 188, .int x, .int y] (I, J, R) (fun r D' => hs_sm I J R D' ∧ r = some (.int (v_later N Q x y))) := by
  have n4' : N.2.1 ≤ 4 := hB.2.1.1.2.2.2.1
  have hwi := sp_hrs_w n4' hB.2.2.2.2.1
  refine hn_F_of _ hk_M_later rfl (Nat.le_of_ble_eq_true rfl) ?_
  by_cases hx : sp_in x N.2.1
  · obtain ⟨p, hp, rfl⟩ := sp_in_nat hx
    rw [v_later, sp_at_in hp (by omega)]
    by_cases hy : sp_w60 y
    · rw [if_pos hy]
      obtain ⟨m, hm, rfl⟩ := sp_w60_nat hy
      rw [nI_clamp (by omega)]
      have L32 : ∀ I', hs_sm I J R (I', J, R) → hs_Qm I' 987 (sp_hrs N Q 0) → hn_B 5 hm_M_later (fun r D' => hs_sm I J R D' ∧ r = some (.int (qP (sp_hrs N Q m) p))) 32 [.ref 188, .int (nI p), .int (nI m), .int (nI 0)] [] (I', J, R) := by
        refine sp_ind m (fun i => ∀ I', hs_sm I J R (I', J, R) → hs_Qm I' 987 (sp_hrs N Q i) → hn_B 5 hm_M_later (fun r D' => hs_sm I J R D' ∧ r = some (.int (qP (sp_hrs N Q m) p))) 32 [.ref 188, .int (nI p), .int (nI m), .int (nI i)] [] (I', J, R)) ?_ ?_
        · intro I' h g
          obtain ⟨hR, hN, hQ, hfm, hw, hAw⟩ := hB
          have hM := hs_M_of hR
          have hN0 := hN
          have hQ0 := hQ
          have hw0 := hw
          obtain ⟨⟨hn, n8, hnp, n4, hkn⟩, hL⟩ := hN
          obtain ⟨⟨_, hVs, hVw, hVp, hVh⟩, hVt⟩ := hQ
          simp only [Nat.zero_add] at hVs hVw hVp hVh
          obtain ⟨m1, m4, m5, m6, m9, m10, m11, m12, m14, m15, m16, m17, m20, m21, m22, m23, m25, m27, m28, m29, m30, m31, m32⟩ := id hM
          refine b_iload_n rfl rfl ?_
          refine b_iload_n rfl rfl ?_
          refine b_icmp_ge rfl (fun c_34 => ?_) (fun c_34 => ?_)
          · refine b_aload_n rfl rfl ?_
            refine b_getR rfl (by first | rfl | assumption) rfl (by assumption) ?_
            refine b_sipush rfl ?_
            refine b_iload_n rfl rfl ?_
            refine b_iadd rfl ?_
            refine b_iaload rfl (by first | rfl | assumption) (hi_ix (987 + 13 + p) (by rw [nI_ad]; rfl) (by omega)) (by omega) ?_
            rw [g.1.2.2.2.1 p (by omega)]
            exact b_ireturn rfl trivial (⟨h, rfl⟩)
          · exact absurd (nI_le (Nat.le_refl _) (by omega)) c_34
        · intro i hi ih I' h g
          refine b_iload_n rfl rfl ?_
          refine b_iload_n rfl rfl ?_
          refine b_icmp_ge rfl (fun c_34 => ?_) (fun c_34 => ?_)
          · exact absurd c_34 (nI_ge hi (by omega))
          · refine b_aload_n rfl rfl ?_
            refine b_sipush rfl ?_
            refine b_iconst rfl ?_
            refine b_callV rfl rfl hk_M_passes rfl rfl rfl (by first | rfl | assumption) rfl (Nat.le_of_ble_eq_true rfl) (qm_th hB h (by omega) g (hwi i) rfl) (Nat.le_of_ble_eq_true rfl) (fun r_42 D_42 q_42 => ?_)
            obtain ⟨⟨I2, rfl, h2, g2, _⟩, rfl⟩ := q_42
            refine b_pop rfl rfl ?_
            refine b_iinc rfl rfl (Nat.le_of_ble_eq_true rfl) ?_
            refine b_goto rfl ?_
            exact b_eq (ih I2 h2 g2) (by rw [nI_succ]; rfl) rfl rfl
      refine b_aload_n rfl rfl ?_
      refine b_iconst rfl ?_
      refine b_putI rfl (by first | rfl | assumption) rfl rfl ⟨rfl, rfl⟩ ?_
      have hB1 := hs_B_0 (v := 0) hB
      have hs0 : hs_sm I J R (hn_u I 188 0 0, J, R) := hs_sm_0
      generalize hn_u I 188 0 0 = I0 at hB1 hs0 ⊢
      have hB2 := hB1
      obtain ⟨hR, hN, hQ, hfm, hw, hAw⟩ := hB1
      have hM := hs_M_of hR
      have hN0 := hN
      have hQ0 := hQ
      have hw0 := hw
      obtain ⟨⟨hn, n8, hnp, n4, hkn⟩, hL⟩ := hN
      obtain ⟨⟨_, hVs, hVw, hVp, hVh⟩, hVt⟩ := hQ
      simp only [Nat.zero_add] at hVs hVw hVp hVh
      obtain ⟨m1, m4, m5, m6, m9, m10, m11, m12, m14, m15, m16, m17, m20, m21, m22, m23, m25, m27, m28, m29, m30, m31, m32⟩ := id hM
      refine b_aload_n rfl rfl ?_
      refine b_iload_n rfl rfl ?_
      refine b_callV rfl rfl hk_M_isPerson rfl rfl rfl (by first | rfl | assumption) rfl (Nat.le_of_ble_eq_true rfl) (q_M_isPerson hM hnp n4) (Nat.le_of_ble_eq_true rfl) (fun r_7 D_7 q_7 => ?_)
      obtain ⟨rfl, hq⟩ := q_7
      rw [if_pos hx] at hq
      subst hq
      refine b_if_eq rfl (fun c_10 => ?_) (fun c_10 => ?_)
      · exact absurd c_10 (by decide)
      · refine b_iload_n rfl rfl ?_
        refine b_iconst rfl ?_
        refine b_bipush rfl ?_
        refine b_callS rfl rfl hk_M_within rfl rfl rfl (Nat.le_of_ble_eq_true rfl) (q_M_within) (Nat.le_of_ble_eq_true rfl) (fun r_17 D_17 q_17 => ?_)
        obtain ⟨rfl, hq⟩ := q_17
        rw [if_pos (show (0 : Int32).toInt ≤ _ ∧ _ ≤ (60 : Int32).toInt from hy)] at hq
        subst hq
        refine b_if_ne rfl (fun c_20 => ?_) (fun c_20 => ?_)
        · refine b_aload_n rfl rfl ?_
          refine b_callV rfl rfl hk_M_triesNow rfl rfl rfl (by first | rfl | assumption) rfl (Nat.le_of_ble_eq_true rfl) (qm_tc hB hs0) (Nat.le_of_ble_eq_true rfl) (fun r_27 D_27 q_27 => ?_)
          obtain ⟨rfl, I1, rfl, h1, h2⟩ := q_27
          refine b_iconst rfl ?_
          refine b_istore_n rfl (Nat.le_of_ble_eq_true rfl) ?_
          exact b_eq (L32 I1 h1 h2) (by rw [nI_0]; rfl) rfl rfl
        · exact absurd c_20 (by decide)
    · rw [if_neg hy]
      refine b_aload_n rfl rfl ?_
      refine b_iconst rfl ?_
      refine b_putI rfl (by first | rfl | assumption) rfl rfl ⟨rfl, rfl⟩ ?_
      have hB1 := hs_B_0 (v := 0) hB
      have hs0 : hs_sm I J R (hn_u I 188 0 0, J, R) := hs_sm_0
      generalize hn_u I 188 0 0 = I0 at hB1 hs0 ⊢
      have hB2 := hB1
      obtain ⟨hR, hN, hQ, hfm, hw, hAw⟩ := hB1
      have hM := hs_M_of hR
      have hN0 := hN
      have hQ0 := hQ
      have hw0 := hw
      obtain ⟨⟨hn, n8, hnp, n4, hkn⟩, hL⟩ := hN
      obtain ⟨⟨_, hVs, hVw, hVp, hVh⟩, hVt⟩ := hQ
      simp only [Nat.zero_add] at hVs hVw hVp hVh
      obtain ⟨m1, m4, m5, m6, m9, m10, m11, m12, m14, m15, m16, m17, m20, m21, m22, m23, m25, m27, m28, m29, m30, m31, m32⟩ := id hM
      refine b_aload_n rfl rfl ?_
      refine b_iload_n rfl rfl ?_
      refine b_callV rfl rfl hk_M_isPerson rfl rfl rfl (by first | rfl | assumption) rfl (Nat.le_of_ble_eq_true rfl) (q_M_isPerson hM hnp n4) (Nat.le_of_ble_eq_true rfl) (fun r_7 D_7 q_7 => ?_)
      obtain ⟨rfl, hq⟩ := q_7
      rw [if_pos hx] at hq
      subst hq
      refine b_if_eq rfl (fun c_10 => ?_) (fun c_10 => ?_)
      · exact absurd c_10 (by decide)
      · refine b_iload_n rfl rfl ?_
        refine b_iconst rfl ?_
        refine b_bipush rfl ?_
        refine b_callS rfl rfl hk_M_within rfl rfl rfl (Nat.le_of_ble_eq_true rfl) (q_M_within) (Nat.le_of_ble_eq_true rfl) (fun r_17 D_17 q_17 => ?_)
        obtain ⟨rfl, hq⟩ := q_17
        rw [if_neg (show ¬ ((0 : Int32).toInt ≤ _ ∧ _ ≤ (60 : Int32).toInt) from hy)] at hq
        subst hq
        refine b_if_ne rfl (fun c_20 => ?_) (fun c_20 => ?_)
        · exact absurd rfl c_20
        · refine b_bipush rfl ?_
          exact b_ireturn rfl trivial (⟨hs0, rfl⟩)
  · rw [v_later, sp_at_out hx]
    refine b_aload_n rfl rfl ?_
    refine b_iconst rfl ?_
    refine b_putI rfl (by first | rfl | assumption) rfl rfl ⟨rfl, rfl⟩ ?_
    have hB1 := hs_B_0 (v := 0) hB
    have hs0 : hs_sm I J R (hn_u I 188 0 0, J, R) := hs_sm_0
    generalize hn_u I 188 0 0 = I0 at hB1 hs0 ⊢
    have hB2 := hB1
    obtain ⟨hR, hN, hQ, hfm, hw, hAw⟩ := hB1
    have hM := hs_M_of hR
    have hN0 := hN
    have hQ0 := hQ
    have hw0 := hw
    obtain ⟨⟨hn, n8, hnp, n4, hkn⟩, hL⟩ := hN
    obtain ⟨⟨_, hVs, hVw, hVp, hVh⟩, hVt⟩ := hQ
    simp only [Nat.zero_add] at hVs hVw hVp hVh
    obtain ⟨m1, m4, m5, m6, m9, m10, m11, m12, m14, m15, m16, m17, m20, m21, m22, m23, m25, m27, m28, m29, m30, m31, m32⟩ := id hM
    refine b_aload_n rfl rfl ?_
    refine b_iload_n rfl rfl ?_
    refine b_callV rfl rfl hk_M_isPerson rfl rfl rfl (by first | rfl | assumption) rfl (Nat.le_of_ble_eq_true rfl) (q_M_isPerson hM hnp n4) (Nat.le_of_ble_eq_true rfl) (fun r_7 D_7 q_7 => ?_)
    obtain ⟨rfl, hq⟩ := q_7
    rw [if_neg hx] at hq
    subst hq
    refine b_if_eq rfl (fun c_10 => ?_) (fun c_10 => ?_)
    · refine b_bipush rfl ?_
      exact b_ireturn rfl trivial (⟨hs0, rfl⟩)
    · exact absurd rfl c_10
theorem sp_first_none (c : Nat → Prop) [DecidablePred c] (h : ∀ i, ¬ c i) : ∀ m i, sp_first c m i = -1
  | 0, _ => rfl
  | m + 1, i => by rw [sp_first, if_neg (h i)]; exact sp_first_none c h m (i + 1)
theorem sp_hrs_up {p : Nat} (h : qP Q p = -1) : ∀ m, qP (sp_hrs N Q m) p = -1
  | 0 => h
  | m + 1 => sp_hr_up (sp_hrs_up h m)
/-! falls -/
def v_falls (N : sp_N) (Q : sp_Q) (x : Int32) : Int32 := sp_at x N.2.1 (fun p => if qP Q p = -1 then -1 else sp_first (fun h => qP (sp_hrs N Q h) p = -1) 60 1) (-1)
theorem q_X_falls {x : Int32} (hA : hs_A I R t N Q) : hn_F 6 hm_X_falls [.ref 0, .int x] (I, J, R) (fun r D' => hs_sx t I J R D' ∧ r = some (.int (v_falls N Q x))) := by
  have hA0 := hA
  obtain ⟨hR, r2, ht, hN, hX, hw, hz, hAw⟩ := hA
  have hN0 := hN
  have hX0 := hX
  have hw0 := hw
  obtain ⟨n0, n8, n4, nk, nh, na, hc, ncd⟩ := hN
  obtain ⟨x1, x2, x3, x4, x5, x6, x7⟩ := hX
  obtain ⟨r6, r7, r8, r11, r12, r13, r14, r15, r16, r17, r18⟩ := hs_x0 hR
  have hSt := hs_St_of hR (show 44 ∈ hs_sc by decide)
  have hNt := hs_Net_of hR ht
  obtain ⟨_, sk0, sk1, sk2, sk3, sk4, g0, g1, g2, g3⟩ := id hSt
  obtain ⟨tt5, tn0, tn1, tn2, tn3, tn4, tn5, tn6, tn7, tn8, tn9, tn10, ts1, ts2, ts3, ts4, ts5, ts7, ts8, tl0, tl2, tl6, tl7⟩ := id hNt
  have hSt9 := hs_St_of hR (show 49 ∈ hs_sc by decide)
  refine hn_F_of _ hk_X_falls rfl (Nat.le_of_ble_eq_true rfl) ?_
  by_cases hx : sp_in x N.2.1
  · obtain ⟨p, hp, rfl⟩ := sp_in_nat hx
    rw [v_falls, sp_at_in hp (by omega)]
    by_cases hl : qP Q p = -1
    · rw [if_pos hl]
      refine b_aload_n rfl rfl ?_
      refine b_iload_n rfl rfl ?_
      refine b_callV rfl rfl hk_X_isPerson rfl rfl rfl (by first | rfl | assumption) rfl (Nat.le_of_ble_eq_true rfl) (q_X_isPerson hA0) (Nat.le_of_ble_eq_true rfl) (fun r_2 D_2 q_2 => ?_)
      obtain ⟨rfl, hq⟩ := q_2
      rw [if_pos hx] at hq
      subst hq
      refine b_if_eq rfl (fun c_5 => ?_) (fun c_5 => ?_)
      · exact absurd c_5 (by decide)
      · refine b_aload_n rfl rfl ?_
        refine b_getR rfl (by first | rfl | assumption) rfl (by assumption) ?_
        refine b_iload_n rfl rfl ?_
        refine b_callV rfl rfl hk_State_isLying rfl rfl rfl (by first | rfl | assumption) rfl (Nat.le_of_ble_eq_true rfl) (q_State_isLying hSt (show p < 4 by omega)) (Nat.le_of_ble_eq_true rfl) (fun r_13 D_13 q_13 => ?_)
        obtain ⟨rfl, hq⟩ := q_13
        rw [P3_p x3 (by omega), if_pos hl] at hq
        subst hq
        refine b_if_ne rfl (fun c_16 => ?_) (fun c_16 => ?_)
        · exact absurd rfl c_16
        · refine b_iconst rfl ?_
          exact b_ireturn rfl trivial (⟨hs_sx_r hz, rfl⟩)
    · rw [if_neg hl]
      have L34 : ∀ I', hs_xt t N I (sp_hrs N Q (1 - 1)) 0 I' → hn_B 6 hm_X_falls (fun r D' => hs_sx t I J R D' ∧ r = some (.int (sp_first (fun h => qP (sp_hrs N Q h) p = -1) (61 - 1) 1))) 34 [.ref 0, .int (nI p), .int (nI 1)] [] (I', J, R) := by
        refine sp_indk 1 61 (by omega) (fun i => ∀ I', hs_xt t N I (sp_hrs N Q (i - 1)) 0 I' → hn_B 6 hm_X_falls (fun r D' => hs_sx t I J R D' ∧ r = some (.int (sp_first (fun h => qP (sp_hrs N Q h) p = -1) (61 - i) i))) 34 [.ref 0, .int (nI p), .int (nI i)] [] (I', J, R)) ?_ ?_
        · intro I' h
          refine b_iload_n rfl rfl ?_
          refine b_bipush rfl ?_
          refine b_icmp_gt rfl (fun c_37 => ?_) (fun c_37 => ?_)
          · refine b_iconst rfl ?_
            exact b_ireturn rfl trivial (⟨hs_xt_sx hA0 h, rfl⟩)
          · exact absurd (show (60 : Int32) < nI 61 by decide) c_37
        · intro i hi1 hi ih I' h
          rw [sp_first_s _ hi]
          have ei : (sp_hr N 0 (-1) (sp_hrs N Q (i - 1))).1 = sp_hrs N Q i := by rw [show i = (i - 1) + 1 by omega]; rfl
          refine b_iload_n rfl rfl ?_
          refine b_bipush rfl ?_
          refine b_icmp_gt rfl (fun c_37 => ?_) (fun c_37 => ?_)
          · exact absurd c_37 (hi_gt60 hi)
          · refine b_aload_n rfl rfl ?_
            refine b_getR rfl (by first | rfl | assumption) rfl (by assumption) ?_
            refine b_aload_n rfl rfl ?_
            refine b_getR rfl (by first | rfl | assumption) rfl (by assumption) ?_
            refine b_iconst rfl ?_
            refine b_callV rfl rfl hk_State_passHour rfl rfl rfl (by first | rfl | assumption) rfl (Nat.le_of_ble_eq_true rfl) (qx_th hA0 h) (Nat.le_of_ble_eq_true rfl) (fun r_49 D_49 q_49 => ?_)
            obtain ⟨⟨I2, rfl, h2⟩, rfl⟩ := q_49
            rw [ei] at h2
            refine b_pop rfl rfl ?_
            refine b_aload_n rfl rfl ?_
            refine b_getR rfl (by first | rfl | assumption) rfl (by assumption) ?_
            refine b_iload_n rfl rfl ?_
            refine b_callV rfl rfl hk_State_isLying rfl rfl rfl (by first | rfl | assumption) rfl (Nat.le_of_ble_eq_true rfl) (q_State_isLying hSt9 (show p < 4 by omega)) (Nat.le_of_ble_eq_true rfl) (fun r_58 D_58 q_58 => ?_)
            obtain ⟨rfl, hq⟩ := q_58
            rw [P3_p h2.2.1.2.2.1 (by omega)] at hq
            by_cases hc : qP (sp_hrs N Q i) p = -1
            · rw [if_pos hc] at hq
              subst hq
              rw [if_pos hc]
              refine b_if_ne rfl (fun c => absurd rfl c) (fun _ => ?_)
              refine b_iload_n rfl rfl ?_
              exact b_ireturn rfl trivial ⟨hs_xt_sx hA0 h2, rfl⟩
            rw [if_neg hc] at hq
            subst hq
            rw [if_neg hc]
            refine b_if_ne rfl (fun c_61 => ?_) (fun c_61 => ?_)
            · refine b_iinc rfl rfl (Nat.le_of_ble_eq_true rfl) ?_
              refine b_goto rfl ?_
              exact b_eq (ih I2 h2) (by rw [nI_succ]; rfl) rfl rfl
            · exact absurd c_61 (by decide)
      refine b_aload_n rfl rfl ?_
      refine b_iload_n rfl rfl ?_
      refine b_callV rfl rfl hk_X_isPerson rfl rfl rfl (by first | rfl | assumption) rfl (Nat.le_of_ble_eq_true rfl) (q_X_isPerson hA0) (Nat.le_of_ble_eq_true rfl) (fun r_2 D_2 q_2 => ?_)
      obtain ⟨rfl, hq⟩ := q_2
      rw [if_pos hx] at hq
      subst hq
      refine b_if_eq rfl (fun c_5 => ?_) (fun c_5 => ?_)
      · exact absurd c_5 (by decide)
      · refine b_aload_n rfl rfl ?_
        refine b_getR rfl (by first | rfl | assumption) rfl (by assumption) ?_
        refine b_iload_n rfl rfl ?_
        refine b_callV rfl rfl hk_State_isLying rfl rfl rfl (by first | rfl | assumption) rfl (Nat.le_of_ble_eq_true rfl) (q_State_isLying hSt (show p < 4 by omega)) (Nat.le_of_ble_eq_true rfl) (fun r_13 D_13 q_13 => ?_)
        obtain ⟨rfl, hq⟩ := q_13
        rw [P3_p x3 (by omega), if_neg hl] at hq
        subst hq
        refine b_if_ne rfl (fun c_16 => ?_) (fun c_16 => ?_)
        · refine b_aload_n rfl rfl ?_
          refine b_getR rfl (by first | rfl | assumption) rfl (by assumption) ?_
          refine b_aload_n rfl rfl ?_
          refine b_getR rfl (by first | rfl | assumption) rfl (by assumption) ?_
          refine b_callV rfl rfl hk_State_copy rfl rfl rfl (by first | rfl | assumption) rfl (Nat.le_of_ble_eq_true rfl) (qx_tc hA0 (fun _ _ => rfl) hz rfl) (Nat.le_of_ble_eq_true rfl) (fun r_29 D_29 q_29 => ?_)
          obtain ⟨rfl, I1, rfl, h1⟩ := q_29
          refine b_iconst rfl ?_
          refine b_istore_n rfl (Nat.le_of_ble_eq_true rfl) ?_
          exact b_eq (L34 I1 h1) rfl rfl rfl
        · exact absurd c_16 (by decide)
  · rw [v_falls, sp_at_out hx]
    refine b_aload_n rfl rfl ?_
    refine b_iload_n rfl rfl ?_
    refine b_callV rfl rfl hk_X_isPerson rfl rfl rfl (by first | rfl | assumption) rfl (Nat.le_of_ble_eq_true rfl) (q_X_isPerson hA0) (Nat.le_of_ble_eq_true rfl) (fun r_2 D_2 q_2 => ?_)
    obtain ⟨rfl, hq⟩ := q_2
    rw [if_neg hx] at hq
    subst hq
    refine b_if_eq rfl (fun c_5 => ?_) (fun c_5 => ?_)
    · refine b_iconst rfl ?_
      exact b_ireturn rfl trivial (⟨hs_sx_r hz, rfl⟩)
    · exact absurd rfl c_5
theorem q_M_falls {x : Int32} (hB : hs_B I R N Q) : hn_F 5 hm_M_falls [.ref 188, .int x] (I, J, R) (fun r D' => hs_sm I J R D' ∧ r = some (.int (v_falls N Q x))) := by
  have n4' : N.2.1 ≤ 4 := hB.2.1.1.2.2.2.1
  have n8' : N.1 ≤ 8 := hB.2.1.1.2.1
  have hwi := sp_hrs_w n4' hB.2.2.2.2.1
  refine hn_F_of _ hk_M_falls rfl (Nat.le_of_ble_eq_true rfl) ?_
  by_cases hx : sp_in x N.2.1
  · obtain ⟨p, hp, rfl⟩ := sp_in_nat hx
    rw [v_falls, sp_at_in hp (by omega)]
    by_cases hl : qP Q p = -1
    · rw [if_pos hl]
      refine b_aload_n rfl rfl ?_
      refine b_iconst rfl ?_
      refine b_putI rfl (by first | rfl | assumption) rfl rfl ⟨rfl, rfl⟩ ?_
      have hB1 := hs_B_0 (v := 0) hB
      have hs0 : hs_sm I J R (hn_u I 188 0 0, J, R) := hs_sm_0
      generalize hn_u I 188 0 0 = I0 at hB1 hs0 ⊢
      have hB2 := hB1
      obtain ⟨hR, hN, hQ, hfm, hw, hAw⟩ := hB1
      have hM := hs_M_of hR
      have hN0 := hN
      have hQ0 := hQ
      have hw0 := hw
      obtain ⟨⟨hn, n8, hnp, n4, hkn⟩, hL⟩ := hN
      obtain ⟨⟨_, hVs, hVw, hVp, hVh⟩, hVt⟩ := hQ
      simp only [Nat.zero_add] at hVs hVw hVp hVh
      obtain ⟨m1, m4, m5, m6, m9, m10, m11, m12, m14, m15, m16, m17, m20, m21, m22, m23, m25, m27, m28, m29, m30, m31, m32⟩ := id hM
      refine b_aload_n rfl rfl ?_
      refine b_callV rfl rfl hk_M_triesNow rfl rfl rfl (by first | rfl | assumption) rfl (Nat.le_of_ble_eq_true rfl) (qm_tc hB hs0) (Nat.le_of_ble_eq_true rfl) (fun r_6 D_6 q_6 => ?_)
      obtain ⟨rfl, I1, rfl, h1, h2⟩ := q_6
      have hB1' := hs_B_sm hB h1
      refine b_iconst rfl ?_
      refine b_istore_n rfl (Nat.le_of_ble_eq_true rfl) ?_
      refine b_iload_n rfl rfl ?_
      refine b_bipush rfl ?_
      refine b_icmp_gt rfl (fun c_14 => ?_) (fun c_14 => ?_)
      · exact absurd c_14 (by decide)
      · refine b_aload_n rfl rfl ?_
        refine b_iload_n rfl rfl ?_
        refine b_callV rfl rfl hk_M_isPerson rfl rfl rfl (by first | rfl | assumption) rfl (Nat.le_of_ble_eq_true rfl) (q_M_isPerson hM hB1'.2.1.1.2.2.1 n4) (Nat.le_of_ble_eq_true rfl) (fun r_19 D_19 q_19 => ?_)
        obtain ⟨rfl, hq⟩ := q_19
        rw [if_pos hx] at hq
        subst hq
        refine b_if_eq rfl (fun c_22 => ?_) (fun c_22 => ?_)
        · exact absurd c_22 (by decide)
        · refine b_aload_n rfl rfl ?_
          refine b_iconst rfl ?_
          refine b_iload_n rfl rfl ?_
          refine b_callV rfl rfl hk_M_doesLie rfl rfl rfl (by first | rfl | assumption) rfl (Nat.le_of_ble_eq_true rfl) (q_M_doesLie hM hB1'.2.2.1.1 n8 hw0.1 (show p < 4 by omega) rfl) (Nat.le_of_ble_eq_true rfl) (fun r_28 D_28 q_28 => ?_)
          obtain ⟨rfl, hq⟩ := q_28
          rw [if_pos hl] at hq
          subst hq
          refine b_if_eq rfl (fun c_31 => ?_) (fun c_31 => ?_)
          · refine b_iconst rfl ?_
            exact b_ireturn rfl trivial (⟨h1, rfl⟩)
          · exact absurd rfl c_31
    · rw [if_neg hl]
      have L11 : ∀ I', hs_sm I J R (I', J, R) → hs_Qm I' 987 (sp_hrs N Q (1 - 1)) → ¬ qP (sp_hrs N Q (1 - 1)) p = -1 → hn_B 5 hm_M_falls (fun r D' => hs_sm I J R D' ∧ r = some (.int (sp_first (fun h => qP (sp_hrs N Q h) p = -1) (61 - 1) 1))) 11 [.ref 188, .int (nI p), .int (nI 1)] [] (I', J, R) := by
        refine sp_indk 1 61 (by omega) (fun i => ∀ I', hs_sm I J R (I', J, R) → hs_Qm I' 987 (sp_hrs N Q (i - 1)) → ¬ qP (sp_hrs N Q (i - 1)) p = -1 → hn_B 5 hm_M_falls (fun r D' => hs_sm I J R D' ∧ r = some (.int (sp_first (fun h => qP (sp_hrs N Q h) p = -1) (61 - i) i))) 11 [.ref 188, .int (nI p), .int (nI i)] [] (I', J, R)) ?_ ?_
        · intro I' h g hn
          refine b_iload_n rfl rfl ?_
          refine b_bipush rfl ?_
          refine b_icmp_gt rfl (fun c_14 => ?_) (fun c_14 => ?_)
          · refine b_iconst rfl ?_
            exact b_ireturn rfl trivial (⟨h, rfl⟩)
          · exact absurd (show (60 : Int32) < nI 61 by decide) c_14
        · intro i hi1 hi ih I' h g hnl
          have hB' := hs_B_sm hB h
          have hM := hs_M_of hB.1
          rw [sp_first_s _ hi]
          have ei : (sp_hr N 0 (-1) (sp_hrs N Q (i - 1))).1 = sp_hrs N Q i := by rw [show i = (i - 1) + 1 by omega]; rfl
          have hfell := sp_hr_fell (N := N) (Q := sp_hrs N Q (i - 1)) (fm := 0) (odd := -1) (p := p) n8' n4' (by omega)
          rw [ei] at hfell
          refine b_iload_n rfl rfl ?_
          refine b_bipush rfl ?_
          refine b_icmp_gt rfl (fun c_14 => ?_) (fun c_14 => ?_)
          · exact absurd c_14 (hi_gt60 hi)
          · refine b_aload_n rfl rfl ?_
            refine b_iload_n rfl rfl ?_
            refine b_callV rfl rfl hk_M_isPerson rfl rfl rfl (by first | rfl | assumption) rfl (Nat.le_of_ble_eq_true rfl) (q_M_isPerson hM hB'.2.1.1.2.2.1 n4') (Nat.le_of_ble_eq_true rfl) (fun r_19 D_19 q_19 => ?_)
            obtain ⟨rfl, hq⟩ := q_19
            rw [if_pos hx] at hq
            subst hq
            refine b_if_eq rfl (fun c_22 => ?_) (fun c_22 => ?_)
            · exact absurd c_22 (by decide)
            · refine b_aload_n rfl rfl ?_
              refine b_iconst rfl ?_
              refine b_iload_n rfl rfl ?_
              refine b_callV rfl rfl hk_M_doesLie rfl rfl rfl (by first | rfl | assumption) rfl (Nat.le_of_ble_eq_true rfl) (q_M_doesLie hM hB'.2.2.1.1 n8' hB'.2.2.2.2.1.1 (show p < 4 by omega) rfl) (Nat.le_of_ble_eq_true rfl) (fun r_28 D_28 q_28 => ?_)
              obtain ⟨rfl, hq⟩ := q_28
              rw [if_neg hl] at hq
              subst hq
              refine b_if_eq rfl (fun c_31 => ?_) (fun c_31 => ?_)
              · exact absurd c_31 (by decide)
              · refine b_aload_n rfl rfl ?_
                refine b_sipush rfl ?_
                refine b_iconst rfl ?_
                refine b_callV rfl rfl hk_M_passes rfl rfl rfl (by first | rfl | assumption) rfl (Nat.le_of_ble_eq_true rfl) (qm_th hB h (by omega) g (hwi (i - 1)) rfl) (Nat.le_of_ble_eq_true rfl) (fun r_39 D_39 q_39 => ?_)
                obtain ⟨⟨I2, rfl, h2, g2, _⟩, rfl⟩ := q_39
                rw [ei] at g2
                refine b_iload_n rfl rfl ?_
                refine b_ishr rfl ?_
                refine b_iconst rfl ?_
                refine b_iand rfl ?_
                refine b_iconst rfl ?_
                refine b_icmp_ne rfl (fun c_47 => ?_) (fun c_47 => ?_)
                · refine b_iinc rfl rfl (Nat.le_of_ble_eq_true rfl) ?_
                  refine b_goto rfl ?_
                  have hc : ¬ qP (sp_hrs N Q i) p = -1 := fun z => c_47 ((hi_bit1 _).mpr (hfell.mpr ⟨hnl, z⟩))
                  rw [if_neg hc]
                  exact b_eq (ih I2 h2 g2 hc) (by rw [nI_succ]; rfl) rfl rfl
                · refine b_iload_n rfl rfl ?_
                  exact b_ireturn rfl trivial (⟨h2, by rw [if_pos (hfell.mp ((hi_bit1 _).mp c_47)).2]⟩)
      refine b_aload_n rfl rfl ?_
      refine b_iconst rfl ?_
      refine b_putI rfl (by first | rfl | assumption) rfl rfl ⟨rfl, rfl⟩ ?_
      have hB1 := hs_B_0 (v := 0) hB
      have hs0 : hs_sm I J R (hn_u I 188 0 0, J, R) := hs_sm_0
      generalize hn_u I 188 0 0 = I0 at hB1 hs0 ⊢
      have hB2 := hB1
      obtain ⟨hR, hN, hQ, hfm, hw, hAw⟩ := hB1
      have hM := hs_M_of hR
      have hN0 := hN
      have hQ0 := hQ
      have hw0 := hw
      obtain ⟨⟨hn, n8, hnp, n4, hkn⟩, hL⟩ := hN
      obtain ⟨⟨_, hVs, hVw, hVp, hVh⟩, hVt⟩ := hQ
      simp only [Nat.zero_add] at hVs hVw hVp hVh
      obtain ⟨m1, m4, m5, m6, m9, m10, m11, m12, m14, m15, m16, m17, m20, m21, m22, m23, m25, m27, m28, m29, m30, m31, m32⟩ := id hM
      refine b_aload_n rfl rfl ?_
      refine b_callV rfl rfl hk_M_triesNow rfl rfl rfl (by first | rfl | assumption) rfl (Nat.le_of_ble_eq_true rfl) (qm_tc hB hs0) (Nat.le_of_ble_eq_true rfl) (fun r_6 D_6 q_6 => ?_)
      obtain ⟨rfl, I1, rfl, h1, h2⟩ := q_6
      refine b_iconst rfl ?_
      refine b_istore_n rfl (Nat.le_of_ble_eq_true rfl) ?_
      exact b_eq (L11 I1 h1 h2 hl) rfl rfl rfl
  · rw [v_falls, sp_at_out hx]
    refine b_aload_n rfl rfl ?_
    refine b_iconst rfl ?_
    refine b_putI rfl (by first | rfl | assumption) rfl rfl ⟨rfl, rfl⟩ ?_
    have hB1 := hs_B_0 (v := 0) hB
    have hs0 : hs_sm I J R (hn_u I 188 0 0, J, R) := hs_sm_0
    generalize hn_u I 188 0 0 = I0 at hB1 hs0 ⊢
    have hB2 := hB1
    obtain ⟨hR, hN, hQ, hfm, hw, hAw⟩ := hB1
    have hM := hs_M_of hR
    have hN0 := hN
    have hQ0 := hQ
    have hw0 := hw
    obtain ⟨⟨hn, n8, hnp, n4, hkn⟩, hL⟩ := hN
    obtain ⟨⟨_, hVs, hVw, hVp, hVh⟩, hVt⟩ := hQ
    simp only [Nat.zero_add] at hVs hVw hVp hVh
    obtain ⟨m1, m4, m5, m6, m9, m10, m11, m12, m14, m15, m16, m17, m20, m21, m22, m23, m25, m27, m28, m29, m30, m31, m32⟩ := id hM
    refine b_aload_n rfl rfl ?_
    refine b_callV rfl rfl hk_M_triesNow rfl rfl rfl (by first | rfl | assumption) rfl (Nat.le_of_ble_eq_true rfl) (qm_tc hB hs0) (Nat.le_of_ble_eq_true rfl) (fun r_6 D_6 q_6 => ?_)
    obtain ⟨rfl, I1, rfl, h1, h2⟩ := q_6
    have hB1' := hs_B_sm hB h1
    refine b_iconst rfl ?_
    refine b_istore_n rfl (Nat.le_of_ble_eq_true rfl) ?_
    refine b_iload_n rfl rfl ?_
    refine b_bipush rfl ?_
    refine b_icmp_gt rfl (fun c_14 => ?_) (fun c_14 => ?_)
    · exact absurd c_14 (by decide)
    · refine b_aload_n rfl rfl ?_
      refine b_iload_n rfl rfl ?_
      refine b_callV rfl rfl hk_M_isPerson rfl rfl rfl (by first | rfl | assumption) rfl (Nat.le_of_ble_eq_true rfl) (q_M_isPerson hM hB1'.2.1.1.2.2.1 n4) (Nat.le_of_ble_eq_true rfl) (fun r_19 D_19 q_19 => ?_)
      obtain ⟨rfl, hq⟩ := q_19
      rw [if_neg hx] at hq
      subst hq
      refine b_if_eq rfl (fun c_22 => ?_) (fun c_22 => ?_)
      · refine b_iconst rfl ?_
        exact b_ireturn rfl trivial (⟨h1, rfl⟩)
      · exact absurd rfl c_22
/-! sleeps -/
abbrev sp_aslp (N : sp_N) (Q : sp_Q) (p h : Nat) : Prop := ¬ qP (sp_hrs N Q h) p = -1 ∧ qW (sp_hrs N Q h) p = 0
def v_sleeps (N : sp_N) (Q : sp_Q) (x : Int32) : Int32 := sp_at x N.2.1 (fun p => sp_first (sp_aslp N Q p) 61 0) (-1)
theorem q_X_sleeps {x : Int32} (hA : hs_A I R t N Q) : hn_F 6 hm_X_sleeps [.ref 0, .int x] (I, J, R) (fun r D' => hs_sx t I J R D' ∧ r = some (.int (v_sleeps N Q x))) := by
  have hA0 := hA
  obtain ⟨hR, r2, ht, hN, hX, hw, hz, hAw⟩ := hA
  have hN0 := hN
  have hX0 := hX
  have hw0 := hw
  obtain ⟨n0, n8, n4, nk, nh, na, hc, ncd⟩ := hN
  obtain ⟨x1, x2, x3, x4, x5, x6, x7⟩ := hX
  obtain ⟨r6, r7, r8, r11, r12, r13, r14, r15, r16, r17, r18⟩ := hs_x0 hR
  have hSt := hs_St_of hR (show 44 ∈ hs_sc by decide)
  have hNt := hs_Net_of hR ht
  obtain ⟨_, sk0, sk1, sk2, sk3, sk4, g0, g1, g2, g3⟩ := id hSt
  obtain ⟨tt5, tn0, tn1, tn2, tn3, tn4, tn5, tn6, tn7, tn8, tn9, tn10, ts1, ts2, ts3, ts4, ts5, ts7, ts8, tl0, tl2, tl6, tl7⟩ := id hNt
  have hSt9 := hs_St_of hR (show 49 ∈ hs_sc by decide)
  refine hn_F_of _ hk_X_sleeps rfl (Nat.le_of_ble_eq_true rfl) ?_
  by_cases hx : sp_in x N.2.1
  · obtain ⟨p, hp, rfl⟩ := sp_in_nat hx
    rw [v_sleeps, sp_at_in hp (by omega)]
    have L23 : ∀ I', hs_xt t N I (sp_hrs N Q 0) 0 I' → hn_B 6 hm_X_sleeps (fun r D' => hs_sx t I J R D' ∧ r = some (.int (sp_first (sp_aslp N Q p) (61 - 0) 0))) 23 [.ref 0, .int (nI p), .int (nI 0)] [] (I', J, R) := by
      refine sp_ind 61 (fun i => ∀ I', hs_xt t N I (sp_hrs N Q i) 0 I' → hn_B 6 hm_X_sleeps (fun r D' => hs_sx t I J R D' ∧ r = some (.int (sp_first (sp_aslp N Q p) (61 - i) i))) 23 [.ref 0, .int (nI p), .int (nI i)] [] (I', J, R)) ?_ ?_
      · intro I' h
        refine b_iload_n rfl rfl ?_
        refine b_bipush rfl ?_
        refine b_icmp_gt rfl (fun c_26 => ?_) (fun c_26 => ?_)
        · refine b_iconst rfl ?_
          exact b_ireturn rfl trivial (⟨hs_xt_sx hA0 h, rfl⟩)
        · exact absurd (show (60 : Int32) < nI 61 by decide) c_26
      · intro i hi ih I' h
        rw [sp_first_s _ hi]
        refine b_iload_n rfl rfl ?_
        refine b_bipush rfl ?_
        refine b_icmp_gt rfl (fun c_26 => ?_) (fun c_26 => ?_)
        · exact absurd c_26 (hi_gt60 hi)
        · refine b_aload_n rfl rfl ?_
          refine b_getR rfl (by first | rfl | assumption) rfl (by assumption) ?_
          refine b_iload_n rfl rfl ?_
          refine b_callV rfl rfl hk_State_isAsleep rfl rfl rfl (by first | rfl | assumption) rfl (Nat.le_of_ble_eq_true rfl) (q_State_isAsleep hSt9 (show p < 4 by omega)) (Nat.le_of_ble_eq_true rfl) (fun r_34 D_34 q_34 => ?_)
          obtain ⟨rfl, hq⟩ := q_34
          rw [h.2.1.2.1, P3_p h.2.1.2.2.1 (by omega)] at hq
          subst hq
          refine b_if_eq rfl (fun c_37 => ?_) (fun c_37 => ?_)
          · refine b_aload_n rfl rfl ?_
            refine b_getR rfl (by first | rfl | assumption) rfl (by assumption) ?_
            refine b_aload_n rfl rfl ?_
            refine b_getR rfl (by first | rfl | assumption) rfl (by assumption) ?_
            refine b_iconst rfl ?_
            refine b_callV rfl rfl hk_State_passHour rfl rfl rfl (by first | rfl | assumption) rfl (Nat.le_of_ble_eq_true rfl) (qx_th hA0 h) (Nat.le_of_ble_eq_true rfl) (fun r_51 D_51 q_51 => ?_)
            obtain ⟨⟨I2, rfl, h2⟩, rfl⟩ := q_51
            refine b_pop rfl rfl ?_
            refine b_iinc rfl rfl (Nat.le_of_ble_eq_true rfl) ?_
            refine b_goto rfl ?_
            rw [if_neg (if01_z.mp c_37)]; exact b_eq (ih I2 h2) (by rw [nI_succ]; rfl) rfl rfl
          · refine b_iload_n rfl rfl ?_
            exact b_ireturn rfl trivial (⟨hs_xt_sx hA0 h, by rw [if_pos (if01_n c_37)]⟩)
    refine b_aload_n rfl rfl ?_
    refine b_iload_n rfl rfl ?_
    refine b_callV rfl rfl hk_X_isPerson rfl rfl rfl (by first | rfl | assumption) rfl (Nat.le_of_ble_eq_true rfl) (q_X_isPerson hA0) (Nat.le_of_ble_eq_true rfl) (fun r_2 D_2 q_2 => ?_)
    obtain ⟨rfl, hq⟩ := q_2
    rw [if_pos hx] at hq
    subst hq
    refine b_if_ne rfl (fun c_5 => ?_) (fun c_5 => ?_)
    · refine b_aload_n rfl rfl ?_
      refine b_getR rfl (by first | rfl | assumption) rfl (by assumption) ?_
      refine b_aload_n rfl rfl ?_
      refine b_getR rfl (by first | rfl | assumption) rfl (by assumption) ?_
      refine b_callV rfl rfl hk_State_copy rfl rfl rfl (by first | rfl | assumption) rfl (Nat.le_of_ble_eq_true rfl) (qx_tc hA0 (fun _ _ => rfl) hz rfl) (Nat.le_of_ble_eq_true rfl) (fun r_18 D_18 q_18 => ?_)
      obtain ⟨rfl, I1, rfl, h1⟩ := q_18
      refine b_iconst rfl ?_
      refine b_istore_n rfl (Nat.le_of_ble_eq_true rfl) ?_
      exact b_eq (L23 I1 h1) (by rw [nI_0]; rfl) rfl rfl
    · exact absurd c_5 (by decide)
  · rw [v_sleeps, sp_at_out hx]
    refine b_aload_n rfl rfl ?_
    refine b_iload_n rfl rfl ?_
    refine b_callV rfl rfl hk_X_isPerson rfl rfl rfl (by first | rfl | assumption) rfl (Nat.le_of_ble_eq_true rfl) (q_X_isPerson hA0) (Nat.le_of_ble_eq_true rfl) (fun r_2 D_2 q_2 => ?_)
    obtain ⟨rfl, hq⟩ := q_2
    rw [if_neg hx] at hq
    subst hq
    refine b_if_ne rfl (fun c_5 => ?_) (fun c_5 => ?_)
    · exact absurd rfl c_5
    · refine b_iconst rfl ?_
      exact b_ireturn rfl trivial (⟨hs_sx_r hz, rfl⟩)
theorem q_M_sleeps {x : Int32} (hB : hs_B I R N Q) : hn_F 5 hm_M_sleeps [.ref 188, .int x] (I, J, R) (fun r D' => hs_sm I J R D' ∧ r = some (.int (v_sleeps N Q x))) := by
  have n4' : N.2.1 ≤ 4 := hB.2.1.1.2.2.2.1
  have n8' : N.1 ≤ 8 := hB.2.1.1.2.1
  have hwi := sp_hrs_w n4' hB.2.2.2.2.1
  refine hn_F_of _ hk_M_sleeps rfl (Nat.le_of_ble_eq_true rfl) ?_
  by_cases hx : sp_in x N.2.1
  · obtain ⟨p, hp, rfl⟩ := sp_in_nat hx
    rw [v_sleeps, sp_at_in hp (by omega)]
    by_cases hl : qP Q p = -1
    · rw [sp_first_none _ (fun i z => z.1 (sp_hrs_up hl i))]
      refine b_aload_n rfl rfl ?_
      refine b_iconst rfl ?_
      refine b_putI rfl (by first | rfl | assumption) rfl rfl ⟨rfl, rfl⟩ ?_
      have hB1 := hs_B_0 (v := 0) hB
      have hs0 : hs_sm I J R (hn_u I 188 0 0, J, R) := hs_sm_0
      generalize hn_u I 188 0 0 = I0 at hB1 hs0 ⊢
      have hB2 := hB1
      obtain ⟨hR, hN, hQ, hfm, hw, hAw⟩ := hB1
      have hM := hs_M_of hR
      have hN0 := hN
      have hQ0 := hQ
      have hw0 := hw
      obtain ⟨⟨hn, n8, hnp, n4, hkn⟩, hL⟩ := hN
      obtain ⟨⟨_, hVs, hVw, hVp, hVh⟩, hVt⟩ := hQ
      simp only [Nat.zero_add] at hVs hVw hVp hVh
      obtain ⟨m1, m4, m5, m6, m9, m10, m11, m12, m14, m15, m16, m17, m20, m21, m22, m23, m25, m27, m28, m29, m30, m31, m32⟩ := id hM
      refine b_aload_n rfl rfl ?_
      refine b_callV rfl rfl hk_M_triesNow rfl rfl rfl (by first | rfl | assumption) rfl (Nat.le_of_ble_eq_true rfl) (qm_tc hB hs0) (Nat.le_of_ble_eq_true rfl) (fun r_6 D_6 q_6 => ?_)
      obtain ⟨rfl, I1, rfl, h1, h2⟩ := q_6
      have hB1' := hs_B_sm hB h1
      refine b_iconst rfl ?_
      refine b_istore_n rfl (Nat.le_of_ble_eq_true rfl) ?_
      refine b_iload_n rfl rfl ?_
      refine b_bipush rfl ?_
      refine b_icmp_gt rfl (fun c_14 => ?_) (fun c_14 => ?_)
      · exact absurd c_14 (by decide)
      · refine b_aload_n rfl rfl ?_
        refine b_iload_n rfl rfl ?_
        refine b_callV rfl rfl hk_M_isPerson rfl rfl rfl (by first | rfl | assumption) rfl (Nat.le_of_ble_eq_true rfl) (q_M_isPerson hM hB1'.2.1.1.2.2.1 n4) (Nat.le_of_ble_eq_true rfl) (fun r_19 D_19 q_19 => ?_)
        obtain ⟨rfl, hq⟩ := q_19
        rw [if_pos hx] at hq
        subst hq
        refine b_if_eq rfl (fun c_22 => ?_) (fun c_22 => ?_)
        · exact absurd c_22 (by decide)
        · refine b_aload_n rfl rfl ?_
          refine b_iconst rfl ?_
          refine b_iload_n rfl rfl ?_
          refine b_callV rfl rfl hk_M_doesLie rfl rfl rfl (by first | rfl | assumption) rfl (Nat.le_of_ble_eq_true rfl) (q_M_doesLie hM hB1'.2.2.1.1 n8 hw0.1 (show p < 4 by omega) rfl) (Nat.le_of_ble_eq_true rfl) (fun r_28 D_28 q_28 => ?_)
          obtain ⟨rfl, hq⟩ := q_28
          rw [if_pos hl] at hq
          subst hq
          refine b_if_eq rfl (fun c_31 => ?_) (fun c_31 => ?_)
          · refine b_iconst rfl ?_
            exact b_ireturn rfl trivial (⟨h1, rfl⟩)
          · exact absurd rfl c_31
    · have L11 : ∀ I', hs_sm I J R (I', J, R) → hs_Qm I' 987 (sp_hrs N Q 0) → hn_B 5 hm_M_sleeps (fun r D' => hs_sm I J R D' ∧ r = some (.int (sp_first (sp_aslp N Q p) (61 - 0) 0))) 11 [.ref 188, .int (nI p), .int (nI 0)] [] (I', J, R) := by
        refine sp_ind 61 (fun i => ∀ I', hs_sm I J R (I', J, R) → hs_Qm I' 987 (sp_hrs N Q i) → hn_B 5 hm_M_sleeps (fun r D' => hs_sm I J R D' ∧ r = some (.int (sp_first (sp_aslp N Q p) (61 - i) i))) 11 [.ref 188, .int (nI p), .int (nI i)] [] (I', J, R)) ?_ ?_
        · intro I' h g
          refine b_iload_n rfl rfl ?_
          refine b_bipush rfl ?_
          refine b_icmp_gt rfl (fun c_14 => ?_) (fun c_14 => ?_)
          · refine b_iconst rfl ?_
            exact b_ireturn rfl trivial (⟨h, rfl⟩)
          · exact absurd (show (60 : Int32) < nI 61 by decide) c_14
        · intro i hi ih I' h g
          have hB' := hs_B_sm hB h
          have hM := hs_M_of hB.1
          rw [sp_first_s _ hi]
          obtain ⟨wi, hwi40, hwe⟩ := (hwi i).2.2.2.2.1 p hp
          have hw0 : ¬ 0 < qW (sp_hrs N Q i) p → qW (sp_hrs N Q i) p = 0 := by
            intro z
            rw [hwe] at z ⊢
            by_cases e : wi = 0
            · rw [e]; rfl
            · exact absurd (show nI 0 < nI wi from hi_nlt (by omega) (by omega)) z
          by_cases hc : sp_aslp N Q p i
          · rw [if_pos hc]
            refine b_iload_n rfl rfl ?_
            refine b_bipush rfl ?_
            refine b_icmp_gt rfl (fun c_14 => ?_) (fun c_14 => ?_)
            · exact absurd c_14 (hi_gt60 hi)
            · refine b_aload_n rfl rfl ?_
              refine b_iload_n rfl rfl ?_
              refine b_callV rfl rfl hk_M_isPerson rfl rfl rfl (by first | rfl | assumption) rfl (Nat.le_of_ble_eq_true rfl) (q_M_isPerson hM hB'.2.1.1.2.2.1 n4') (Nat.le_of_ble_eq_true rfl) (fun r_19 D_19 q_19 => ?_)
              obtain ⟨rfl, hq⟩ := q_19
              rw [if_pos hx] at hq
              subst hq
              refine b_if_eq rfl (fun c_22 => ?_) (fun c_22 => ?_)
              · exact absurd c_22 (by decide)
              · refine b_aload_n rfl rfl ?_
                refine b_iconst rfl ?_
                refine b_iload_n rfl rfl ?_
                refine b_callV rfl rfl hk_M_doesLie rfl rfl rfl (by first | rfl | assumption) rfl (Nat.le_of_ble_eq_true rfl) (q_M_doesLie hM hB'.2.2.1.1 n8' hB'.2.2.2.2.1.1 (show p < 4 by omega) rfl) (Nat.le_of_ble_eq_true rfl) (fun r_28 D_28 q_28 => ?_)
                obtain ⟨rfl, hq⟩ := q_28
                rw [if_neg hl] at hq
                subst hq
                refine b_if_eq rfl (fun c_31 => ?_) (fun c_31 => ?_)
                · exact absurd c_31 (by decide)
                · refine b_aload_n rfl rfl ?_
                  refine b_sipush rfl ?_
                  refine b_iload_n rfl rfl ?_
                  refine b_callV rfl rfl hk_M_doesLie rfl rfl rfl (by first | rfl | assumption) rfl (Nat.le_of_ble_eq_true rfl) (q_M_doesLie hM g.1 n8' (hwi i).1 (show p < 4 by omega) rfl) (Nat.le_of_ble_eq_true rfl) (fun r_39 D_39 q_39 => ?_)
                  obtain ⟨rfl, hq⟩ := q_39
                  rw [if_neg hc.1] at hq
                  subst hq
                  refine b_if_eq rfl (fun c_42 => ?_) (fun c_42 => ?_)
                  · exact absurd c_42 (by decide)
                  · refine b_aload_n rfl rfl ?_
                    refine b_sipush rfl ?_
                    refine b_iload_n rfl rfl ?_
                    refine b_callV rfl rfl hk_M_isAwake rfl rfl rfl (by first | rfl | assumption) rfl (Nat.le_of_ble_eq_true rfl) (q_M_isAwake hM g.1 n8' (hwi i).1 (show p < 4 by omega) rfl) (Nat.le_of_ble_eq_true rfl) (fun r_50 D_50 q_50 => ?_)
                    obtain ⟨rfl, hq⟩ := q_50
                    rw [if_neg (fun z => by have := z.2; rw [hc.2] at this; exact absurd this (by decide))] at hq
                    subst hq
                    refine b_if_ne rfl (fun c_53 => ?_) (fun c_53 => ?_)
                    · exact absurd rfl c_53
                    · refine b_iload_n rfl rfl ?_
                      exact b_ireturn rfl trivial (⟨h, rfl⟩)
          · rw [if_neg hc]
            have tail : hn_B 5 hm_M_sleeps (fun r D' => hs_sm I J R D' ∧ r = some (.int (sp_first (sp_aslp N Q p) (61 - (i + 1)) (i + 1)))) 58 [.ref 188, .int (nI p), .int (nI i)] [] (I', J, R) := by
              refine b_aload_n rfl rfl ?_
              refine b_sipush rfl ?_
              refine b_iconst rfl ?_
              refine b_callV rfl rfl hk_M_passes rfl rfl rfl (by first | rfl | assumption) rfl (Nat.le_of_ble_eq_true rfl) (qm_th hB h (by omega) g (hwi i) rfl) (Nat.le_of_ble_eq_true rfl) (fun r_63 D_63 q_63 => ?_)
              obtain ⟨⟨I2, rfl, h2, g2, _⟩, rfl⟩ := q_63
              refine b_pop rfl rfl ?_
              refine b_iinc rfl rfl (Nat.le_of_ble_eq_true rfl) ?_
              refine b_goto rfl ?_
              exact b_eq (ih I2 h2 g2) (by rw [nI_succ]; rfl) rfl rfl
            refine b_iload_n rfl rfl ?_
            refine b_bipush rfl ?_
            refine b_icmp_gt rfl (fun c_14 => ?_) (fun c_14 => ?_)
            · exact absurd c_14 (hi_gt60 hi)
            · refine b_aload_n rfl rfl ?_
              refine b_iload_n rfl rfl ?_
              refine b_callV rfl rfl hk_M_isPerson rfl rfl rfl (by first | rfl | assumption) rfl (Nat.le_of_ble_eq_true rfl) (q_M_isPerson hM hB'.2.1.1.2.2.1 n4') (Nat.le_of_ble_eq_true rfl) (fun r_19 D_19 q_19 => ?_)
              obtain ⟨rfl, hq⟩ := q_19
              rw [if_pos hx] at hq
              subst hq
              refine b_if_eq rfl (fun c_22 => ?_) (fun c_22 => ?_)
              · exact absurd c_22 (by decide)
              · refine b_aload_n rfl rfl ?_
                refine b_iconst rfl ?_
                refine b_iload_n rfl rfl ?_
                refine b_callV rfl rfl hk_M_doesLie rfl rfl rfl (by first | rfl | assumption) rfl (Nat.le_of_ble_eq_true rfl) (q_M_doesLie hM hB'.2.2.1.1 n8' hB'.2.2.2.2.1.1 (show p < 4 by omega) rfl) (Nat.le_of_ble_eq_true rfl) (fun r_28 D_28 q_28 => ?_)
                obtain ⟨rfl, hq⟩ := q_28
                rw [if_neg hl] at hq
                subst hq
                refine b_if_eq rfl (fun c_31 => ?_) (fun c_31 => ?_)
                · exact absurd c_31 (by decide)
                · refine b_aload_n rfl rfl ?_
                  refine b_sipush rfl ?_
                  refine b_iload_n rfl rfl ?_
                  refine b_callV rfl rfl hk_M_doesLie rfl rfl rfl (by first | rfl | assumption) rfl (Nat.le_of_ble_eq_true rfl) (q_M_doesLie hM g.1 n8' (hwi i).1 (show p < 4 by omega) rfl) (Nat.le_of_ble_eq_true rfl) (fun r_39 D_39 q_39 => ?_)
                  obtain ⟨rfl, hq39⟩ := q_39
                  subst hq39
                  refine b_if_eq rfl (fun c_42 => ?_) (fun c_42 => ?_)
                  · exact tail
                  · refine b_aload_n rfl rfl ?_
                    refine b_sipush rfl ?_
                    refine b_iload_n rfl rfl ?_
                    refine b_callV rfl rfl hk_M_isAwake rfl rfl rfl (by first | rfl | assumption) rfl (Nat.le_of_ble_eq_true rfl) (q_M_isAwake hM g.1 n8' (hwi i).1 (show p < 4 by omega) rfl) (Nat.le_of_ble_eq_true rfl) (fun r_50 D_50 q_50 => ?_)
                    obtain ⟨rfl, hq50⟩ := q_50
                    subst hq50
                    refine b_if_ne rfl (fun c_53 => ?_) (fun c_53 => ?_)
                    · exact tail
                    · refine b_iload_n rfl rfl ?_
                      exact b_ireturn rfl trivial ((absurd (And.intro (fun z => c_42 (if_pos z)) (hw0 (fun z => if01_z.mp c_53 ⟨fun y => c_42 (if_pos y), z⟩))) hc))
      refine b_aload_n rfl rfl ?_
      refine b_iconst rfl ?_
      refine b_putI rfl (by first | rfl | assumption) rfl rfl ⟨rfl, rfl⟩ ?_
      have hB1 := hs_B_0 (v := 0) hB
      have hs0 : hs_sm I J R (hn_u I 188 0 0, J, R) := hs_sm_0
      generalize hn_u I 188 0 0 = I0 at hB1 hs0 ⊢
      have hB2 := hB1
      obtain ⟨hR, hN, hQ, hfm, hw, hAw⟩ := hB1
      have hM := hs_M_of hR
      have hN0 := hN
      have hQ0 := hQ
      have hw0 := hw
      obtain ⟨⟨hn, n8, hnp, n4, hkn⟩, hL⟩ := hN
      obtain ⟨⟨_, hVs, hVw, hVp, hVh⟩, hVt⟩ := hQ
      simp only [Nat.zero_add] at hVs hVw hVp hVh
      obtain ⟨m1, m4, m5, m6, m9, m10, m11, m12, m14, m15, m16, m17, m20, m21, m22, m23, m25, m27, m28, m29, m30, m31, m32⟩ := id hM
      refine b_aload_n rfl rfl ?_
      refine b_callV rfl rfl hk_M_triesNow rfl rfl rfl (by first | rfl | assumption) rfl (Nat.le_of_ble_eq_true rfl) (qm_tc hB hs0) (Nat.le_of_ble_eq_true rfl) (fun r_6 D_6 q_6 => ?_)
      obtain ⟨rfl, I1, rfl, h1, h2⟩ := q_6
      refine b_iconst rfl ?_
      refine b_istore_n rfl (Nat.le_of_ble_eq_true rfl) ?_
      exact b_eq (L11 I1 h1 h2) (by rw [nI_0]; rfl) rfl rfl
  · rw [v_sleeps, sp_at_out hx]
    refine b_aload_n rfl rfl ?_
    refine b_iconst rfl ?_
    refine b_putI rfl (by first | rfl | assumption) rfl rfl ⟨rfl, rfl⟩ ?_
    have hB1 := hs_B_0 (v := 0) hB
    have hs0 : hs_sm I J R (hn_u I 188 0 0, J, R) := hs_sm_0
    generalize hn_u I 188 0 0 = I0 at hB1 hs0 ⊢
    have hB2 := hB1
    obtain ⟨hR, hN, hQ, hfm, hw, hAw⟩ := hB1
    have hM := hs_M_of hR
    have hN0 := hN
    have hQ0 := hQ
    have hw0 := hw
    obtain ⟨⟨hn, n8, hnp, n4, hkn⟩, hL⟩ := hN
    obtain ⟨⟨_, hVs, hVw, hVp, hVh⟩, hVt⟩ := hQ
    simp only [Nat.zero_add] at hVs hVw hVp hVh
    obtain ⟨m1, m4, m5, m6, m9, m10, m11, m12, m14, m15, m16, m17, m20, m21, m22, m23, m25, m27, m28, m29, m30, m31, m32⟩ := id hM
    refine b_aload_n rfl rfl ?_
    refine b_callV rfl rfl hk_M_triesNow rfl rfl rfl (by first | rfl | assumption) rfl (Nat.le_of_ble_eq_true rfl) (qm_tc hB hs0) (Nat.le_of_ble_eq_true rfl) (fun r_6 D_6 q_6 => ?_)
    obtain ⟨rfl, I1, rfl, h1, h2⟩ := q_6
    have hB1' := hs_B_sm hB h1
    refine b_iconst rfl ?_
    refine b_istore_n rfl (Nat.le_of_ble_eq_true rfl) ?_
    refine b_iload_n rfl rfl ?_
    refine b_bipush rfl ?_
    refine b_icmp_gt rfl (fun c_14 => ?_) (fun c_14 => ?_)
    · exact absurd c_14 (by decide)
    · refine b_aload_n rfl rfl ?_
      refine b_iload_n rfl rfl ?_
      refine b_callV rfl rfl hk_M_isPerson rfl rfl rfl (by first | rfl | assumption) rfl (Nat.le_of_ble_eq_true rfl) (q_M_isPerson hM hB1'.2.1.1.2.2.1 n4) (Nat.le_of_ble_eq_true rfl) (fun r_19 D_19 q_19 => ?_)
      obtain ⟨rfl, hq⟩ := q_19
      rw [if_neg hx] at hq
      subst hq
      refine b_if_eq rfl (fun c_22 => ?_) (fun c_22 => ?_)
      · refine b_iconst rfl ?_
        exact b_ireturn rfl trivial (⟨h1, rfl⟩)
      · exact absurd rfl c_22
/-! meet -/
abbrev sp_met (N : sp_N) (Q : sp_Q) (p o h : Nat) : Prop := ¬ qP (sp_hrs N Q h) p = -1 ∧ qP (sp_hrs N Q h) p = qP (sp_hrs N Q h) o
def v_meet (N : sp_N) (Q : sp_Q) (x y : Int32) : Int32 := sp_at x N.2.1 (fun p => sp_at y N.2.1 (fun o => if x = y then -1 else sp_first (sp_met N Q p o) 61 0) (-1)) (-1)
theorem q_X_meet {x y : Int32} (hA : hs_A I R t N Q) : hn_F 6 hm_X_meet [.ref 0, .int x, .int y] (I, J, R) (fun r D' => hs_sx t I J R D' ∧ r = some (.int (v_meet N Q x y))) := by
  have hA0 := hA
  obtain ⟨hR, r2, ht, hN, hX, hw, hz, hAw⟩ := hA
  have hN0 := hN
  have hX0 := hX
  have hw0 := hw
  obtain ⟨n0, n8, n4, nk, nh, na, hc, ncd⟩ := hN
  obtain ⟨x1, x2, x3, x4, x5, x6, x7⟩ := hX
  obtain ⟨r6, r7, r8, r11, r12, r13, r14, r15, r16, r17, r18⟩ := hs_x0 hR
  have hSt := hs_St_of hR (show 44 ∈ hs_sc by decide)
  have hNt := hs_Net_of hR ht
  obtain ⟨_, sk0, sk1, sk2, sk3, sk4, g0, g1, g2, g3⟩ := id hSt
  obtain ⟨tt5, tn0, tn1, tn2, tn3, tn4, tn5, tn6, tn7, tn8, tn9, tn10, ts1, ts2, ts3, ts4, ts5, ts7, ts8, tl0, tl2, tl6, tl7⟩ := id hNt
  have hSt9 := hs_St_of hR (show 49 ∈ hs_sc by decide)
  obtain ⟨_, uk0, uk1, uk2, uk3, uk4, u0, u1, u2, u3⟩ := id hSt9
  refine hn_F_of _ hk_X_meet rfl (Nat.le_of_ble_eq_true rfl) ?_
  by_cases hx : sp_in x N.2.1
  · obtain ⟨p, hp, rfl⟩ := sp_in_nat hx
    rw [v_meet, sp_at_in hp (by omega)]
    by_cases hy : sp_in y N.2.1
    · obtain ⟨o, ho, rfl⟩ := sp_in_nat hy
      rw [sp_at_in ho (by omega)]
      have L36 : ∀ I', hs_xt t N I (sp_hrs N Q 0) 0 I' → hn_B 6 hm_X_meet (fun r D' => hs_sx t I J R D' ∧ r = some (.int (sp_first (sp_met N Q p o) (61 - 0) 0))) 36 [.ref 0, .int (nI p), .int (nI o), .int (nI 0)] [] (I', J, R) := by
        refine sp_ind 61 (fun i => ∀ I', hs_xt t N I (sp_hrs N Q i) 0 I' → hn_B 6 hm_X_meet (fun r D' => hs_sx t I J R D' ∧ r = some (.int (sp_first (sp_met N Q p o) (61 - i) i))) 36 [.ref 0, .int (nI p), .int (nI o), .int (nI i)] [] (I', J, R)) ?_ ?_
        · intro I' h
          refine b_iload_n rfl rfl ?_
          refine b_bipush rfl ?_
          refine b_icmp_gt rfl (fun c_39 => ?_) (fun c_39 => ?_)
          · refine b_iconst rfl ?_
            exact b_ireturn rfl trivial (⟨hs_xt_sx hA0 h, rfl⟩)
          · exact absurd (show (60 : Int32) < nI 61 by decide) c_39
        · intro i hi ih I' h
          rw [sp_first_s _ hi]
          have e3 := P3_p h.2.1.2.2.1 (by omega)
          refine b_iload_n rfl rfl ?_
          refine b_bipush rfl ?_
          refine b_icmp_gt rfl (fun c_39 => ?_) (fun c_39 => ?_)
          · exact absurd c_39 (hi_gt60 hi)
          · refine b_aload_n rfl rfl ?_
            refine b_getR rfl (by first | rfl | assumption) rfl (by assumption) ?_
            refine b_iload_n rfl rfl ?_
            refine b_callV rfl rfl hk_State_isLying rfl rfl rfl (by first | rfl | assumption) rfl (Nat.le_of_ble_eq_true rfl) (q_State_isLying hSt9 (show p < 4 by omega)) (Nat.le_of_ble_eq_true rfl) (fun r_47 D_47 q_47 => ?_)
            obtain ⟨rfl, hq⟩ := q_47
            rw [e3] at hq
            subst hq
            refine b_if_eq rfl (fun c_50 => ?_) (fun c_50 => ?_)
            · refine b_aload_n rfl rfl ?_
              refine b_getR rfl (by first | rfl | assumption) rfl (by assumption) ?_
              refine b_aload_n rfl rfl ?_
              refine b_getR rfl (by first | rfl | assumption) rfl (by assumption) ?_
              refine b_iconst rfl ?_
              refine b_callV rfl rfl hk_State_passHour rfl rfl rfl (by first | rfl | assumption) rfl (Nat.le_of_ble_eq_true rfl) (qx_th hA0 h) (Nat.le_of_ble_eq_true rfl) (fun r_85 D_85 q_85 => ?_)
              obtain ⟨⟨I2, rfl, h2⟩, rfl⟩ := q_85
              refine b_pop rfl rfl ?_
              refine b_iinc rfl rfl (Nat.le_of_ble_eq_true rfl) ?_
              refine b_goto rfl ?_
              first | (rw [if_neg (fun z : sp_met N Q p o i => absurd c_50 (by rw [if_neg z.1]; decide))]; exact b_eq (ih I2 h2) (by rw [nI_succ]; rfl) rfl rfl) | (rw [if_neg (fun z : sp_met N Q p o i => c_71 z.2)]; exact b_eq (ih I2 h2) (by rw [nI_succ]; rfl) rfl rfl)
            · refine b_aload_n rfl rfl ?_
              refine b_getR rfl (by first | rfl | assumption) rfl (by assumption) ?_
              refine b_getR rfl (by first | rfl | assumption) rfl (by assumption) ?_
              refine b_iload_n rfl rfl ?_
              refine b_iaload rfl (by first | rfl | assumption) (by first | assumption | exact nI_toInt (by omega) | exact hi_l0 | exact hi_l1 | exact hi_l2 | exact hi_l3 | exact hi_l4 | exact hi_l5 | exact hi_l6) (by omega) ?_
              refine b_aload_n rfl rfl ?_
              refine b_getR rfl (by first | rfl | assumption) rfl (by assumption) ?_
              refine b_getR rfl (by first | rfl | assumption) rfl (by assumption) ?_
              refine b_iload_n rfl rfl ?_
              refine b_iaload rfl (by first | rfl | assumption) (by first | assumption | exact nI_toInt (by omega) | exact hi_l0 | exact hi_l1 | exact hi_l2 | exact hi_l3 | exact hi_l4 | exact hi_l5 | exact hi_l6) (by omega) ?_
              rw [e3]
              refine b_icmp_ne rfl (fun c_71 => ?_) (fun c_71 => ?_)
              · refine b_aload_n rfl rfl ?_
                refine b_getR rfl (by first | rfl | assumption) rfl (by assumption) ?_
                refine b_aload_n rfl rfl ?_
                refine b_getR rfl (by first | rfl | assumption) rfl (by assumption) ?_
                refine b_iconst rfl ?_
                refine b_callV rfl rfl hk_State_passHour rfl rfl rfl (by first | rfl | assumption) rfl (Nat.le_of_ble_eq_true rfl) (qx_th hA0 h) (Nat.le_of_ble_eq_true rfl) (fun r_85 D_85 q_85 => ?_)
                obtain ⟨⟨I2, rfl, h2⟩, rfl⟩ := q_85
                refine b_pop rfl rfl ?_
                refine b_iinc rfl rfl (Nat.le_of_ble_eq_true rfl) ?_
                refine b_goto rfl ?_
                first | (rw [if_neg (fun z : sp_met N Q p o i => absurd c_50 (by rw [if_neg z.1]; decide))]; exact b_eq (ih I2 h2) (by rw [nI_succ]; rfl) rfl rfl) | (rw [if_neg (fun z : sp_met N Q p o i => c_71 z.2)]; exact b_eq (ih I2 h2) (by rw [nI_succ]; rfl) rfl rfl)
              · refine b_iload_n rfl rfl ?_
                exact b_ireturn rfl trivial (⟨hs_xt_sx hA0 h, by rw [if_pos (show sp_met N Q p o i from ⟨fun z => c_50 (if_pos z), c_71⟩)]⟩)
      by_cases he : nI p = nI o
      · rw [if_pos he]
        refine b_aload_n rfl rfl ?_
        refine b_iload_n rfl rfl ?_
        refine b_callV rfl rfl hk_X_isPerson rfl rfl rfl (by first | rfl | assumption) rfl (Nat.le_of_ble_eq_true rfl) (q_X_isPerson hA0) (Nat.le_of_ble_eq_true rfl) (fun r_2 D_2 q_2 => ?_)
        obtain ⟨rfl, hq⟩ := q_2
        rw [if_pos hx] at hq
        subst hq
        refine b_if_eq rfl (fun c_5 => ?_) (fun c_5 => ?_)
        · exact absurd c_5 (by decide)
        · refine b_aload_n rfl rfl ?_
          refine b_iload_n rfl rfl ?_
          refine b_callV rfl rfl hk_X_isPerson rfl rfl rfl (by first | rfl | assumption) rfl (Nat.le_of_ble_eq_true rfl) (q_X_isPerson hA0) (Nat.le_of_ble_eq_true rfl) (fun r_10 D_10 q_10 => ?_)
          obtain ⟨rfl, hq⟩ := q_10
          rw [if_pos hy] at hq
          subst hq
          refine b_if_eq rfl (fun c_13 => ?_) (fun c_13 => ?_)
          · exact absurd c_13 (by decide)
          · refine b_iload_n rfl rfl ?_
            refine b_iload_n rfl rfl ?_
            refine b_icmp_ne rfl (fun c_18 => ?_) (fun c_18 => ?_)
            · exact absurd he c_18
            · refine b_iconst rfl ?_
              exact b_ireturn rfl trivial (⟨hs_sx_r hz, rfl⟩)
      · rw [if_neg he]
        refine b_aload_n rfl rfl ?_
        refine b_iload_n rfl rfl ?_
        refine b_callV rfl rfl hk_X_isPerson rfl rfl rfl (by first | rfl | assumption) rfl (Nat.le_of_ble_eq_true rfl) (q_X_isPerson hA0) (Nat.le_of_ble_eq_true rfl) (fun r_2 D_2 q_2 => ?_)
        obtain ⟨rfl, hq⟩ := q_2
        rw [if_pos hx] at hq
        subst hq
        refine b_if_eq rfl (fun c_5 => ?_) (fun c_5 => ?_)
        · exact absurd c_5 (by decide)
        · refine b_aload_n rfl rfl ?_
          refine b_iload_n rfl rfl ?_
          refine b_callV rfl rfl hk_X_isPerson rfl rfl rfl (by first | rfl | assumption) rfl (Nat.le_of_ble_eq_true rfl) (q_X_isPerson hA0) (Nat.le_of_ble_eq_true rfl) (fun r_10 D_10 q_10 => ?_)
          obtain ⟨rfl, hq⟩ := q_10
          rw [if_pos hy] at hq
          subst hq
          refine b_if_eq rfl (fun c_13 => ?_) (fun c_13 => ?_)
          · exact absurd c_13 (by decide)
          · refine b_iload_n rfl rfl ?_
            refine b_iload_n rfl rfl ?_
            refine b_icmp_ne rfl (fun c_18 => ?_) (fun c_18 => ?_)
            · refine b_aload_n rfl rfl ?_
              refine b_getR rfl (by first | rfl | assumption) rfl (by assumption) ?_
              refine b_aload_n rfl rfl ?_
              refine b_getR rfl (by first | rfl | assumption) rfl (by assumption) ?_
              refine b_callV rfl rfl hk_State_copy rfl rfl rfl (by first | rfl | assumption) rfl (Nat.le_of_ble_eq_true rfl) (qx_tc hA0 (fun _ _ => rfl) hz rfl) (Nat.le_of_ble_eq_true rfl) (fun r_31 D_31 q_31 => ?_)
              obtain ⟨rfl, I1, rfl, h1⟩ := q_31
              refine b_iconst rfl ?_
              refine b_istore_n rfl (Nat.le_of_ble_eq_true rfl) ?_
              exact b_eq (L36 I1 h1) (by rw [nI_0]; rfl) rfl rfl
            · exact absurd c_18 he
    · rw [sp_at_out hy]
      refine b_aload_n rfl rfl ?_
      refine b_iload_n rfl rfl ?_
      refine b_callV rfl rfl hk_X_isPerson rfl rfl rfl (by first | rfl | assumption) rfl (Nat.le_of_ble_eq_true rfl) (q_X_isPerson hA0) (Nat.le_of_ble_eq_true rfl) (fun r_2 D_2 q_2 => ?_)
      obtain ⟨rfl, hq⟩ := q_2
      rw [if_pos hx] at hq
      subst hq
      refine b_if_eq rfl (fun c_5 => ?_) (fun c_5 => ?_)
      · exact absurd c_5 (by decide)
      · refine b_aload_n rfl rfl ?_
        refine b_iload_n rfl rfl ?_
        refine b_callV rfl rfl hk_X_isPerson rfl rfl rfl (by first | rfl | assumption) rfl (Nat.le_of_ble_eq_true rfl) (q_X_isPerson hA0) (Nat.le_of_ble_eq_true rfl) (fun r_10 D_10 q_10 => ?_)
        obtain ⟨rfl, hq⟩ := q_10
        rw [if_neg hy] at hq
        subst hq
        refine b_if_eq rfl (fun c_13 => ?_) (fun c_13 => ?_)
        · refine b_iconst rfl ?_
          exact b_ireturn rfl trivial (⟨hs_sx_r hz, rfl⟩)
        · exact absurd rfl c_13
  · rw [v_meet, sp_at_out hx]
    refine b_aload_n rfl rfl ?_
    refine b_iload_n rfl rfl ?_
    refine b_callV rfl rfl hk_X_isPerson rfl rfl rfl (by first | rfl | assumption) rfl (Nat.le_of_ble_eq_true rfl) (q_X_isPerson hA0) (Nat.le_of_ble_eq_true rfl) (fun r_2 D_2 q_2 => ?_)
    obtain ⟨rfl, hq⟩ := q_2
    rw [if_neg hx] at hq
    subst hq
    refine b_if_eq rfl (fun c_5 => ?_) (fun c_5 => ?_)
    · refine b_iconst rfl ?_
      exact b_ireturn rfl trivial (⟨hs_sx_r hz, rfl⟩)
    · exact absurd rfl c_5
end HNtimes
