section HNtrial
variable {I I' : Nat → Nat → Int32} {J J' : Nat → Nat → Int64} {R : Nat → Nat → Option Nat} {t : Nat} {N : sp_N} {Q Q' : sp_Q}
theorem hs_Nx_fr (hf : ∀ b, ¬ hs_xs t b → I' b = I b) (ht : t = 4 ∨ t = 20) (hN : hs_Nx I t N) : hs_Nx I' t N := by
  unfold hs_Nx hs_code
  rw [hf t (by omega), hf (t + 2) (by omega), hf (t + 3) (by omega), hf (t + 4) (by omega), hf (t + 6) (by omega), hf (t + 7) (by omega)]
  exact hN
theorem hs_A_fr (hA : hs_A I R t N Q) (hf : ∀ b, ¬ hs_xs t b → I' b = I b) (hz : hs_z I' 49) : hs_A I' R t N Q := by
  obtain ⟨hR, r2, ht, hN, hX, hw, _, hAw⟩ := hA
  refine ⟨hR, r2, ht, hs_Nx_fr hf ht hN, ?_, hw, hz, hAw⟩
  unfold hs_Qx
  rw [hf (44 + 1) (by omega), hf (44 + 2) (by omega), hf (44 + 3) (by omega), hf (44 + 4) (by omega), hf 44 (by omega)]
  exact hX
theorem hs_B_sm (hB : hs_B I R N Q) (hs : hs_sm I J R (I', J', R)) : hs_B I' R N Q := by
  obtain ⟨hR, hN, hQ, hfm, hw, hAw⟩ := hB
  obtain ⟨_, h1, h2, h3, _⟩ := hs
  simp only at h1 h2 h3
  refine ⟨hR, ?_, ⟨⟨hQ.1.1, fun k hk => ?_, fun k hk => ?_, fun k hk => ?_, fun k hk => ?_⟩, ?_⟩, ?_, hw, hAw⟩
  · unfold hs_Nm hs_MN hs_ML
    rw [h1 194 (by omega), h1 195 (by omega), h1 196 (by omega)]
    exact hN
  · rw [h3 _ (by omega)]; exact hQ.1.2.1 k hk
  · rw [h3 _ (by omega)]; exact hQ.1.2.2.1 k hk
  · rw [h3 _ (by omega)]; exact hQ.1.2.2.2.1 k hk
  · rw [h3 _ (by omega)]; exact hQ.1.2.2.2.2 k hk
  · rw [h3 _ (by omega)]; exact hQ.2
  · rw [h2 _ (by omega)]; exact hfm
/-- the class's trial -/
def hs_xt (t : Nat) (N : sp_N) (I : Nat → Nat → Int32) (q : sp_Q) (fm : Int32) (I' : Nat → Nat → Int32) : Prop := (∀ b, ¬ hs_xs t b → I' b = I b) ∧ hs_Qx I' 49 N.1 N.2.1 fm q ∧ hs_Qw N.1 N.2.1 q
theorem hs_xt_z {q : sp_Q} {fm : Int32} (hA : hs_A I R t N Q) (h : hs_xt t N I q fm I') : hs_z I' 49 := hs_z_of h.2.1 h.2.2 hA.2.2.2.1.2.1 hA.2.2.2.1.2.2.1
theorem hs_xt_sx {q : sp_Q} {fm : Int32} (hA : hs_A I R t N Q) (h : hs_xt t N I q fm I') : hs_sx t I J R (I', J, R) := ⟨rfl, h.1, fun _ _ _ _ => rfl, hs_xt_z hA h⟩
theorem qx_th {q : sp_Q} {fm odd : Int32} (hA : hs_A I R t N Q) (h : hs_xt t N I q fm I') : hn_F 5 hm_State_passHour [.ref 49, .ref t, .int odd] (I', J, R) (fun r D' => (∃ I2, D' = (I2, J, R) ∧ hs_xt t N I (sp_hr N fm odd q).1 fm I2) ∧ r = some (.int (sp_hr N fm odd q).2)) := by
  obtain ⟨hR, r2, ht, hN, hX, hw, hz, hAw⟩ := hA
  refine (qx_hour (odd := odd) (hs_St_of hR (by decide)) (hs_Net_of hR ht) (hs_Nx_fr h.1 ht hN) h.2.1 h.2.2.1).mono (fun r D' g => ?_)
  obtain ⟨hf, g1, g2⟩ := g
  obtain ⟨I2, rfl, hI2⟩ := hf.out
  exact ⟨⟨I2, rfl, fun b hb => by rw [hI2 b (fun e => hb (by unfold hs_w at e; omega))]; exact h.1 b hb, g1, sp_hr_w hN.2.2.1 h.2.2⟩, g2⟩
theorem qx_tc {fm : Int32} (hA : hs_A I R t N Q) (hf : ∀ b, ¬ hs_xs t b → I' b = I b) (hz' : hs_z I' 49) (h44 : fm = 0) : hn_F 1 hm_State_copy [.ref 49, .ref 44] (I', J, R) (fun r D' => r = none ∧ ∃ I2, D' = (I2, J, R) ∧ hs_xt t N I Q fm I2) := by
  have hA' := hs_A_fr hA hf hz'
  obtain ⟨hR, r2, ht, hN, hX, hw, hz, hAw⟩ := hA'
  subst h44
  refine (qx_copy (hs_St_of hR (by decide)) (hs_St_of hR (by decide)) (by omega) hz (hs_z_of hX hw hN.2.1 hN.2.2.1) hX).mono (fun r D' g => ?_)
  obtain ⟨g0, hf2, g1⟩ := g
  obtain ⟨I2, rfl, hI2⟩ := hf2.out
  exact ⟨g0, I2, rfl, fun b hb => by rw [hI2 b (fun e => hb (Or.inl (by omega)))]; exact hf b hb, g1, hw⟩
theorem qm_th {q : sp_Q} {x odd : Int32} {b : Nat} (hB : hs_B I R N Q) (hs : hs_sm I J R (I', J', R)) (hb : 987 ≤ b) (h : hs_Qm I' b q) (hw : hs_Qw N.1 N.2.1 q) (hx : x = nI b) : hn_F 4 hm_M_passes [.ref 188, .int x, .int odd] (I', J', R) (fun r D' => (∃ I2, D' = (I2, J', R) ∧ hs_sm I J R (I2, J', R) ∧ hs_Qm I2 b (sp_hr N 0 odd q).1 ∧ hs_Qw N.1 N.2.1 (sp_hr N 0 odd q).1) ∧ r = some (.int (sp_hr N 0 odd q).2)) := by
  obtain ⟨hR, hN, hQ, hfm, hw2, hAw⟩ := hs_B_sm hB hs
  refine (qm_hour (odd := odd) (hs_M_of hR) hN h hfm hw.1 hw.2.2.2.1 hx).mono (fun r D' g => ?_)
  obtain ⟨hf, g1, g2, g3⟩ := g
  obtain ⟨I2, rfl, hI2⟩ := hf.out
  obtain ⟨s1, s2, s3, s4, s5⟩ := hs
  exact ⟨⟨I2, rfl, ⟨rfl, fun c hc => by show I2 c = I c; rw [hI2 c (fun e => hc (by unfold hs_m3 at e; omega))]; exact s2 c hc, fun j hj => by show I2 188 j = _; rw [hI2 188 (by omega)]; exact s3 j hj, fun j hj => (g1 j (by omega)).trans (s4 j hj), s5⟩, g2, sp_hr_w hN.1.2.2.2.1 hw⟩, g3⟩
theorem qm_tc (hB : hs_B I R N Q) (hs : hs_sm I J R (I', J', R)) : hn_F 1 hm_M_triesNow [.ref 188] (I', J', R) (fun r D' => r = none ∧ ∃ I2, D' = (I2, J', R) ∧ hs_sm I J R (I2, J', R) ∧ hs_Qm I2 987 Q) := by
  obtain ⟨hR, hN, hQ, hfm, hw2, hAw⟩ := hs_B_sm hB hs
  obtain ⟨s1, s2, s3, s4, s5⟩ := hs
  obtain ⟨⟨_, hVs, hVw, hVp, hVh⟩, hVt⟩ := hQ
  simp only [Nat.zero_add] at hVs hVw hVp hVh
  refine hn_F_of _ hk_M_triesNow rfl (Nat.le_of_ble_eq_true rfl) ?_
  refine b_aload_n rfl rfl ?_
  refine b_iconst rfl ?_
  refine b_sipush rfl ?_
  refine b_bipush rfl ?_
  refine b_callV rfl rfl hk_M_copies rfl rfl rfl (by first | rfl | assumption) rfl (Nat.le_of_ble_eq_true rfl) (q_M_copies (f := 0) (t := 987) (m := 21) (hs_M_of hR) (by omega) (by omega) (by omega) rfl rfl rfl) (Nat.le_of_ble_eq_true rfl) (fun r_7 D_7 q_7 => ?_)
  obtain ⟨rfl, hf, h204⟩ := q_7
  obtain ⟨I2, rfl, hI2⟩ := hf.out
  have e : ∀ j, j < 21 → I2 204 (987 + j) = I' 204 j := fun j hj => by have := congrFun h204 (987 + j); simp only [va_cpy] at this; rw [if_pos (by omega), show 0 + (987 + j - 987) = j by omega] at this; exact this
  exact b_return_ rfl trivial (⟨rfl, I2, rfl, ⟨rfl, fun c hc => by show I2 c = I c; rw [hI2 c (fun e => hc (by omega))]; exact s2 c hc, fun j hj => by show I2 188 j = _; rw [hI2 188 (by omega)]; exact s3 j hj, fun j hj => (congrFun h204 j).trans (by simp only [va_cpy]; rw [if_neg (by omega)]; exact s4 j hj), s5⟩, ⟨by omega, fun k hk => by rw [Nat.add_assoc, e _ (by omega)]; exact hVs k hk, fun k hk => by rw [Nat.add_assoc, e _ (by omega)]; exact hVw k hk, fun k hk => by rw [Nat.add_assoc, e _ (by omega)]; exact hVp k hk, fun k hk => by rw [Nat.add_assoc, e _ (by omega)]; exact hVh k hk⟩, (e 0 (by omega)).trans hVt⟩)
/-! still -/
abbrev v_still (N : sp_N) (Q : sp_Q) (h : Nat) : Prop := sp_awake (qW (sp_hrs N Q h)) (qP (sp_hrs N Q h)) N.2.1 = 0
theorem nI_60 : nI 60 = 60 := by decide
theorem nI_61 : nI 61 = 61 := by decide
theorem hi_gt60 {i : Nat} (h : i < 61) : ¬ (60 : Int32) < nI i := fun z => by
  have := (hi_lt (show (60 : Int32).toInt = 60 from rfl) (nI_toInt (by omega))).mp z
  omega
theorem q_X_still (hA : hs_A I R t N Q) : hn_F 6 hm_X_still [.ref 0] (I, J, R) (fun r D' => hs_sx t I J R D' ∧ r = some (.int (sp_first (v_still N Q) 61 0))) := by
  have hA0 := hA
  obtain ⟨hR, r2, ht, hN, hX, hw, hz, hAw⟩ := hA
  have hN0 := hN
  have hX0 := hX
  have hw0 := hw
  obtain ⟨n0, n8, n4, nk, nh, na, hc, ncd⟩ := hN
  obtain ⟨x1, x2, x3, x4, x5, x6, x7⟩ := hX
  obtain ⟨r6, r7, r8, r11, r12, r13, r14, r15, r16, r17, r18⟩ := hs_x0 hR
  have hSt := hs_St_of hR (show 44 ∈ hs_sc by decide)
  have hNt := hs_Net_of hR ht
  obtain ⟨_, sk0, sk1, sk2, sk3, sk4, g0, g1, g2, g3⟩ := id hSt
  obtain ⟨tt5, tn0, tn1, tn2, tn3, tn4, tn5, tn6, tn7, tn8, tn9, tn10, ts1, ts2, ts3, ts4, ts5, ts7, ts8, tl0, tl2, tl6, tl7⟩ := id hNt
  have hSt9 := hs_St_of hR (show 49 ∈ hs_sc by decide)
  refine hn_F_of _ hk_X_still rfl (Nat.le_of_ble_eq_true rfl) ?_
  refine b_aload_n rfl rfl ?_
  refine b_getR rfl (by first | rfl | assumption) rfl (by assumption) ?_
  refine b_aload_n rfl rfl ?_
  refine b_getR rfl (by first | rfl | assumption) rfl (by assumption) ?_
  refine b_callV rfl rfl hk_State_copy rfl rfl rfl (by first | rfl | assumption) rfl (Nat.le_of_ble_eq_true rfl) (qx_tc hA0 (fun _ _ => rfl) hz rfl) (Nat.le_of_ble_eq_true rfl) (fun r_8 D_8 q_8 => ?_)
  obtain ⟨rfl, I1, rfl, h1⟩ := q_8
  refine b_iconst rfl ?_
  refine b_istore_n rfl (Nat.le_of_ble_eq_true rfl) ?_
  refine b_eq (sp_ind 61 (fun i => ∀ I', hs_xt t N I (sp_hrs N Q i) 0 I' → hn_B 6 hm_X_still (fun r D' => hs_sx t I J R D' ∧ r = some (.int (sp_first (v_still N Q) (61 - i) i))) 13 [.ref 0, .int (nI i)] [] (I', J, R)) ?_ ?_ I1 h1) (by rw [nI_0]; rfl) rfl rfl
  · intro I' h
    refine b_iload_n rfl rfl ?_
    refine b_bipush rfl ?_
    refine b_icmp_gt rfl (fun c_16 => ?_) (fun c_16 => ?_)
    · refine b_iconst rfl ?_
      exact b_ireturn rfl trivial (⟨hs_xt_sx hA0 h, rfl⟩)
    · exact absurd (show (60 : Int32) < nI 61 by decide) c_16
  · intro i hi ih I' h
    have e := sp_first_s (v_still N Q) hi
    rw [e]
    refine b_iload_n rfl rfl ?_
    refine b_bipush rfl ?_
    refine b_icmp_gt rfl (fun c_16 => ?_) (fun c_16 => ?_)
    · exact absurd c_16 (hi_gt60 hi)
    · refine b_aload_n rfl rfl ?_
      refine b_getR rfl (by first | rfl | assumption) rfl (by assumption) ?_
      refine b_callV rfl rfl hk_State_awake rfl rfl rfl (by first | rfl | assumption) rfl (Nat.le_of_ble_eq_true rfl) (q_State_awake hSt9 h.2.1.2.2.2.2.1 n4) (Nat.le_of_ble_eq_true rfl) (fun r_23 D_23 q_23 => ?_)
      obtain ⟨rfl, hq⟩ := q_23
      rw [h.2.1.2.1, P3_awake h.2.1.2.2.1] at hq
      subst hq
      refine b_if_ne rfl (fun c_26 => ?_) (fun c_26 => ?_)
      · refine b_aload_n rfl rfl ?_
        refine b_getR rfl (by first | rfl | assumption) rfl (by assumption) ?_
        refine b_aload_n rfl rfl ?_
        refine b_getR rfl (by first | rfl | assumption) rfl (by assumption) ?_
        refine b_iconst rfl ?_
        refine b_callV rfl rfl hk_State_passHour rfl rfl rfl (by first | rfl | assumption) rfl (Nat.le_of_ble_eq_true rfl) (qx_th hA0 h) (Nat.le_of_ble_eq_true rfl) (fun r_40 D_40 q_40 => ?_)
        obtain ⟨⟨I2, rfl, h2⟩, rfl⟩ := q_40
        refine b_pop rfl rfl ?_
        refine b_iinc rfl rfl (Nat.le_of_ble_eq_true rfl) ?_
        refine b_goto rfl ?_
        rw [if_neg c_26]; exact b_eq (ih I2 h2) (by rw [nI_succ]; rfl) rfl rfl
      · refine b_iload_n rfl rfl ?_
        exact b_ireturn rfl trivial (⟨hs_xt_sx hA0 h, by rw [if_pos c_26]⟩)
theorem q_M_still (hB : hs_B I R N Q) : hn_F 5 hm_M_still [.ref 188] (I, J, R) (fun r D' => hs_sm I J R D' ∧ r = some (.int (sp_first (v_still N Q) 61 0))) := by
  have n4' : N.2.1 ≤ 4 := hB.2.1.1.2.2.2.1
  have hwi := sp_hrs_w n4' hB.2.2.2.2.1
  refine hn_F_of _ hk_M_still rfl (Nat.le_of_ble_eq_true rfl) ?_
  refine b_aload_n rfl rfl ?_
  refine b_iconst rfl ?_
  refine b_putI rfl (by first | rfl | assumption) rfl rfl ⟨rfl, rfl⟩ ?_
  have hB1 := hs_B_0 (v := 0) hB
  have hs0 : hs_sm I J R (hn_u I 188 0 0, J, R) := hs_sm_0
  generalize hn_u I 188 0 0 = I0 at hB1 hs0 ⊢
  have hB2 := hB1
  obtain ⟨hR, hN, hQ, hfm, hw, hAw⟩ := hB1
  have hM := hs_M_of hR
  have hN0 := hN
  have hQ0 := hQ
  have hw0 := hw
  obtain ⟨⟨hn, n8, hnp, n4, hkn⟩, hL⟩ := hN
  obtain ⟨⟨_, hVs, hVw, hVp, hVh⟩, hVt⟩ := hQ
  simp only [Nat.zero_add] at hVs hVw hVp hVh
  obtain ⟨m1, m4, m5, m6, m9, m10, m11, m12, m14, m15, m16, m17, m20, m21, m22, m23, m25, m27, m28, m29, m30, m31, m32⟩ := id hM
  refine b_aload_n rfl rfl ?_
  refine b_callV rfl rfl hk_M_triesNow rfl rfl rfl (by first | rfl | assumption) rfl (Nat.le_of_ble_eq_true rfl) (qm_tc hB hs0) (Nat.le_of_ble_eq_true rfl) (fun r_6 D_6 q_6 => ?_)
  obtain ⟨rfl, I1, rfl, h1, h2⟩ := q_6
  refine b_iconst rfl ?_
  refine b_istore_n rfl (Nat.le_of_ble_eq_true rfl) ?_
  refine b_eq (sp_ind 61 (fun i => ∀ I', hs_sm I J R (I', J, R) → hs_Qm I' 987 (sp_hrs N Q i) → hn_B 5 hm_M_still (fun r D' => hs_sm I J R D' ∧ r = some (.int (sp_first (v_still N Q) (61 - i) i))) 11 [.ref 188, .int (nI i)] [] (I', J, R)) ?_ ?_ I1 h1 h2) (by rw [nI_0]; rfl) rfl rfl
  · intro I' h g
    refine b_iload_n rfl rfl ?_
    refine b_bipush rfl ?_
    refine b_icmp_gt rfl (fun c_14 => ?_) (fun c_14 => ?_)
    · refine b_iconst rfl ?_
      exact b_ireturn rfl trivial (⟨h, rfl⟩)
    · exact absurd (show (60 : Int32) < nI 61 by decide) c_14
  · intro i hi ih I' h g
    have e := sp_first_s (v_still N Q) hi
    have hB' := hs_B_sm hB h
    rw [e]
    refine b_iload_n rfl rfl ?_
    refine b_bipush rfl ?_
    refine b_icmp_gt rfl (fun c_14 => ?_) (fun c_14 => ?_)
    · exact absurd c_14 (hi_gt60 hi)
    · refine b_aload_n rfl rfl ?_
      refine b_sipush rfl ?_
      refine b_callV rfl rfl hk_M_awake rfl rfl rfl (by first | rfl | assumption) rfl (Nat.le_of_ble_eq_true rfl) (q_M_awake hM g.1 n8 (hwi i).1 hB'.2.1.1.2.2.1 n4 rfl) (Nat.le_of_ble_eq_true rfl) (fun r_21 D_21 q_21 => ?_)
      obtain ⟨rfl, rfl⟩ := q_21
      refine b_if_ne rfl (fun c_24 => ?_) (fun c_24 => ?_)
      · refine b_aload_n rfl rfl ?_
        refine b_sipush rfl ?_
        refine b_iconst rfl ?_
        refine b_callV rfl rfl hk_M_passes rfl rfl rfl (by first | rfl | assumption) rfl (Nat.le_of_ble_eq_true rfl) (qm_th hB h (by omega) g (hwi i) rfl) (Nat.le_of_ble_eq_true rfl) (fun r_34 D_34 q_34 => ?_)
        obtain ⟨⟨I2, rfl, h2, g2, _⟩, rfl⟩ := q_34
        refine b_pop rfl rfl ?_
        refine b_iinc rfl rfl (Nat.le_of_ble_eq_true rfl) ?_
        refine b_goto rfl ?_
        rw [if_neg c_24]; exact b_eq (ih I2 h2 g2) (by rw [nI_succ]; rfl) rfl rfl
      · refine b_iload_n rfl rfl ?_
        exact b_ireturn rfl trivial (⟨h, by rw [if_pos c_24]⟩)
end HNtrial
