section HNmmarks
variable {I I' : Nat → Nat → Int32} {J J' : Nat → Nat → Int64} {R : Nat → Nat → Option Nat} {t : Nat} {N : sp_N} {Q Q' : sp_Q} {U : sp_U} {V : sp_V}
def hs_vm (I : Nat → Nat → Int32) (J : Nat → Nat → Int64) (R : Nat → Nat → Option Nat) (V : sp_V) (D : hnD) : Prop := D.2.1 = J ∧ D.2.2 = R ∧ (∀ b, b ≠ 188 → b ≠ 204 → D.1 b = I b) ∧ (∀ j, j ≠ 0 → D.1 188 j = I 188 j) ∧ (∀ j, ¬ (21 ≤ j ∧ j < 47) → D.1 204 j = I 204 j) ∧ hs_Vm D.1 0 V
theorem hs_Vm_fr {b b' : Nat} (h : hs_Vm I b V) (hf : ∀ j, 21 ≤ j → j < 47 → I' 204 (b' + j) = I 204 (b + j)) : hs_Vm I' b' V := by
  obtain ⟨h1, h2, h3, h4⟩ := h
  refine ⟨by rw [hf 21 (by omega) (by omega)]; exact h1, h2, fun z => by rw [hf 22 (by omega) (by omega)]; exact h3 z, fun i hi => ?_⟩
  have e1 := hf (23 + 3 * i) (by omega) (by omega)
  have e2 := hf (24 + 3 * i) (by omega) (by omega)
  have e3 := hf (25 + 3 * i) (by omega) (by omega)
  simp only [← Nat.add_assoc] at e1 e2 e3
  rw [e1, e2, e3]
  exact h4 i hi
theorem hs_vm_r {I0 : Nat → Nat → Int32} (e0 : ∀ b, b ≠ 188 → I0 b = I b) (e188 : ∀ j, j ≠ 0 → I0 188 j = I 188 j) (hV : hs_Vm I 0 V) : hs_vm I J R V (I0, J, R) :=
  ⟨rfl, rfl, fun b h1 _ => e0 b h1, e188, fun j _ => by show I0 204 j = _; rw [e0 204 (by omega)], hs_Vm_fr hV (fun j _ _ => by show I0 204 _ = _; rw [e0 204 (by omega)])⟩
theorem see_m_new {I0 I2 : Nat → Nat → Int32} {m : Nat} {x y z b : Int32} (e0 : ∀ b, b ≠ 188 → I0 b = I b) (e188 : ∀ j, j ≠ 0 → I0 188 j = I 188 j) (hV : hs_Vm I 0 V) (hm8 : m < 8) (hmi : ∀ i, i < m → i < V.2.1)
    (f2 : ∀ b, b ≠ 204 → I2 b = I0 b) (e2 : I2 204 = va_up (va_up (va_up (va_up (va_up (va_up (I0 204) 21 (nI m)) 22 x) (23 + 3 * m) y) (23 + 3 * m + 1) z) (23 + 3 * m + 2) b) 21 (nI m + 1)) : hs_vm I J R (x, m + 1, va_up V.2.2.1 m y, va_up V.2.2.2.1 m z, va_up V.2.2.2.2 m b) (I2, J, R) := by
  obtain ⟨v1, v2, v3, v4⟩ := hV
  refine ⟨rfl, rfl, fun b h1 h2 => (f2 b h2).trans (e0 b h1), fun j hj => (congrFun (f2 188 (by omega)) j).trans (e188 j hj), fun j hj => ?_, ?_⟩
  · show I2 204 j = I 204 j
    rw [e2]
    unfold va_up
    rw [if_neg (by omega), if_neg (by omega), if_neg (by omega), if_neg (by omega), if_neg (by omega), if_neg (by omega), e0 204 (by omega)]
  · refine ⟨?_, (show m + 1 ≤ 8 by omega), fun _ => ?_, fun i hi => ?_⟩
    · show I2 204 (0 + 21) = nI (m + 1)
      rw [e2, va_up, if_pos rfl, nI_succ]
    · show I2 204 (0 + 22) = x
      rw [e2]
      unfold va_up
      rw [if_neg (by omega), if_neg (by omega), if_neg (by omega), if_neg (by omega), if_pos (by omega)]
    · simp only at hi
      show I2 204 (0 + 23 + 3 * i) = va_up V.2.2.1 m y i ∧ I2 204 (0 + 24 + 3 * i) = va_up V.2.2.2.1 m z i ∧ I2 204 (0 + 25 + 3 * i) = va_up V.2.2.2.2 m b i
      rw [e2]
      unfold va_up
      by_cases e : i = m
      · subst e
        refine ⟨?_, ?_, ?_⟩
        · rw [if_neg (by omega), if_neg (by omega), if_neg (by omega), if_pos (show 0 + 23 + 3 * i = 23 + 3 * i by omega), if_pos (rfl : i = i)]
        · rw [if_neg (by omega), if_neg (by omega), if_pos (show 0 + 24 + 3 * i = 23 + 3 * i + 1 by omega), if_pos (rfl : i = i)]
        · rw [if_neg (by omega), if_pos (show 0 + 25 + 3 * i = 23 + 3 * i + 2 by omega), if_pos (rfl : i = i)]
      · rw [if_neg e, if_neg e, if_neg e]
        have h4 := v4 i (hmi i (by omega))
        refine ⟨?_, ?_, ?_⟩
        · rw [if_neg (by omega), if_neg (by omega), if_neg (by omega), if_neg (by omega), if_neg (by omega), if_neg (by omega), e0 204 (by omega)]; exact h4.1
        · rw [if_neg (by omega), if_neg (by omega), if_neg (by omega), if_neg (by omega), if_neg (by omega), if_neg (by omega), e0 204 (by omega)]; exact h4.2.1
        · rw [if_neg (by omega), if_neg (by omega), if_neg (by omega), if_neg (by omega), if_neg (by omega), if_neg (by omega), e0 204 (by omega)]; exact h4.2.2
theorem nI_23 (m : Nat) : (23 : Int32) + 3 * nI m = nI (23 + 3 * m) := by rw [nI_ad, nI_ml]; rfl
theorem q_M_see {x y z b : Int32} (hB : hs_B I R N Q) (hV : hs_Vm I 0 V) (hb : b = 0 ∨ b = 1) : hn_F 2 hm_M_see [.ref 188, .int x, .int y, .int z, .int b] (I, J, R) (fun r D' => hs_vm I J R (v_see N V x y z b).1 D' ∧ r = some (.int (v_see N V x y z b).2)) := by
  have hV0 := hV
  obtain ⟨v1, v2, v3, v4⟩ := hV
  have v1 : I 204 21 = nI V.2.1 := v1
  have v3 : 0 < V.2.1 → I 204 22 = V.1 := v3
  refine hn_F_of _ hk_M_see rfl (Nat.le_of_ble_eq_true rfl) ?_
  obtain ⟨m, hmd⟩ : ∃ m, m = if V.1 = x then V.2.1 else 0 := ⟨_, rfl⟩
  have hmd2 : m = if I 204 22 = x then V.2.1 else 0 := by
    by_cases h0 : V.2.1 = 0
    · rw [hmd, h0]; simp
    · rw [hmd, v3 (by omega)]
  have h8e : V.1 = x ∧ V.2.1 = 8 ↔ I 204 22 = x ∧ V.2.1 = 8 := by
    constructor
    · rintro ⟨h1, h2⟩; exact ⟨(v3 (by omega)).trans h1, h2⟩
    · rintro ⟨h1, h2⟩; exact ⟨(v3 (by omega)).symm.trans h1, h2⟩
  have hm8 : m ≤ 8 := by rw [hmd]; split <;> omega
  have hmi : ∀ i, i < m → i < V.2.1 := by intro i hi; rw [hmd] at hi; split at hi <;> omega
  have i21 : (21 : Int32).toInt = ((21 : Nat) : Int) := rfl
  have i22 : (22 : Int32).toInt = ((22 : Nat) : Int) := rfl
  have t30 : (30 : Int32).toInt = 30 := rfl
  have L91 : ∀ (f : Int32) (I0 : Nat → Nat → Int32), hs_M R → (∀ b, b ≠ 188 → I0 b = I b) → (∀ j, j ≠ 0 → I0 188 j = I 188 j) → m < 8 → v_see N V x y z b = ((x, m + 1, va_up V.2.2.1 m y, va_up V.2.2.2.1 m z, va_up V.2.2.2.2 m b), 1) → hn_B 2 hm_M_see (fun r D' => hs_vm I J R (v_see N V x y z b).1 D' ∧ r = some (.int (v_see N V x y z b).2)) 91 [.ref 188, .int x, .int y, .int z, .int b, .int f, .null] [] (hn_u I0 204 21 (nI m), J, R) := by
    intro f I0 hM e0 e188 hm hv
    rw [hv]
    obtain ⟨m1, m4, m5, m6, m9, m10, m11, m12, m14, m15, m16, m17, m20, m21, m22, m23, m25, m27, m28, m29, m30, m31, m32⟩ := id hM
    obtain ⟨I1, hI1⟩ : ∃ w, w = hn_u (hn_u I0 204 21 (nI m)) 204 22 x := ⟨_, rfl⟩
    have e1 : I1 204 21 = nI m := by rw [hI1, hn_u_eq, va_up, if_neg (by omega), hn_u_eq, va_up, if_pos rfl]
    obtain ⟨I2, hI2⟩ : ∃ w, w = hn_u (hn_u I1 204 (23 + 3 * m) y) 204 (23 + 3 * m + 1) z := ⟨_, rfl⟩
    have f2 : ∀ v : Int32, ∀ c, c ≠ 204 → hn_u (hn_u I2 204 (23 + 3 * m + 2) b) 204 21 v c = I0 c := fun v c hc => by rw [hn_u_ne _ _ _ hc, hn_u_ne _ _ _ hc, hI2, hn_u_ne _ _ _ hc, hn_u_ne _ _ _ hc, hI1, hn_u_ne _ _ _ hc, hn_u_ne _ _ _ hc]
    have g2 : hn_u I2 204 (23 + 3 * m + 2) b 204 21 = nI m := by rw [hn_u_eq, va_up, if_neg (by omega), hI2, hn_u_eq, va_up, if_neg (by omega), hn_u_eq, va_up, if_neg (by omega)]; exact e1
    have post : hs_vm I J R (x, m + 1, va_up V.2.2.1 m y, va_up V.2.2.2.1 m z, va_up V.2.2.2.2 m b) (hn_u (hn_u I2 204 (23 + 3 * m + 2) b) 204 21 (nI m + 1), J, R) := see_m_new e0 e188 hV0 hm hmi (f2 _) (by rw [hn_u_eq, hn_u_eq, hI2, hn_u_eq, hn_u_eq, hI1, hn_u_eq, hn_u_eq])
    refine b_aload_n rfl rfl ?_
    refine b_getR rfl (by first | rfl | assumption) rfl (by assumption) ?_
    refine b_bipush rfl ?_
    refine b_iload_n rfl rfl ?_
    refine b_iastore rfl (by first | rfl | assumption) i22 (by omega) ?_
    rw [← hI1]
    refine b_bipush rfl ?_
    refine b_iconst rfl ?_
    refine b_aload_n rfl rfl ?_
    refine b_getR rfl (by first | rfl | assumption) rfl (by assumption) ?_
    refine b_bipush rfl ?_
    refine b_iaload rfl (by first | rfl | assumption) i21 (by omega) ?_
    rw [e1]
    refine b_imul rfl ?_
    refine b_iadd rfl ?_
    rw [nI_23]
    refine b_istore rfl (Nat.le_of_ble_eq_true rfl) ?_
    refine b_aload_n rfl rfl ?_
    refine b_getR rfl (by first | rfl | assumption) rfl (by assumption) ?_
    refine b_iload rfl rfl ?_
    refine b_iload_n rfl rfl ?_
    refine b_iastore rfl (by first | rfl | assumption) (by first | assumption | exact nI_toInt (by omega) | exact hi_l0 | exact hi_l1 | exact hi_l2 | exact hi_l3 | exact hi_l4 | exact hi_l5 | exact hi_l6) (by omega) ?_
    refine b_aload_n rfl rfl ?_
    refine b_getR rfl (by first | rfl | assumption) rfl (by assumption) ?_
    refine b_iload rfl rfl ?_
    refine b_iconst rfl ?_
    refine b_iadd rfl ?_
    refine b_iload_n rfl rfl ?_
    refine b_iastore rfl (by first | rfl | assumption) (hi_ix (23 + 3 * m + 1) (by rw [nI_ad (23 + 3 * m)]; rfl) (by omega)) (by omega) ?_
    rw [← hI2]
    refine b_aload_n rfl rfl ?_
    refine b_getR rfl (by first | rfl | assumption) rfl (by assumption) ?_
    refine b_iload rfl rfl ?_
    refine b_iconst rfl ?_
    refine b_iadd rfl ?_
    refine b_iload rfl rfl ?_
    refine b_if_eq rfl (fun c_141 => ?_) (fun c_141 => ?_)
    · refine b_iconst rfl ?_
      rcases hb with rfl | rfl <;> first | exact absurd c_141 (by decide) | exact absurd rfl c_141 | skip
      refine b_iastore rfl (by first | rfl | assumption) (hi_ix (23 + 3 * m + 2) (by rw [nI_ad (23 + 3 * m)]; rfl) (by omega)) (by omega) ?_
      refine b_aload_n rfl rfl ?_
      refine b_getR rfl (by first | rfl | assumption) rfl (by assumption) ?_
      refine b_bipush rfl ?_
      refine b_dup2_11 rfl rfl rfl ?_
      refine b_iaload rfl (by first | rfl | assumption) i21 (by omega) ?_
      rw [g2]
      refine b_iconst rfl ?_
      refine b_iadd rfl ?_
      refine b_iastore rfl (by first | rfl | assumption) i21 (by omega) ?_
      refine b_iconst rfl ?_
      exact b_ireturn rfl (by first | exact Or.inl rfl | exact Or.inr rfl | exact trivial) (⟨post, rfl⟩)
    · refine b_iconst rfl ?_
      refine b_goto rfl ?_
      rcases hb with rfl | rfl <;> first | exact absurd c_141 (by decide) | exact absurd rfl c_141 | skip
      refine b_iastore rfl (by first | rfl | assumption) (hi_ix (23 + 3 * m + 2) (by rw [nI_ad (23 + 3 * m)]; rfl) (by omega)) (by omega) ?_
      refine b_aload_n rfl rfl ?_
      refine b_getR rfl (by first | rfl | assumption) rfl (by assumption) ?_
      refine b_bipush rfl ?_
      refine b_dup2_11 rfl rfl rfl ?_
      refine b_iaload rfl (by first | rfl | assumption) i21 (by omega) ?_
      rw [g2]
      refine b_iconst rfl ?_
      refine b_iadd rfl ?_
      refine b_iastore rfl (by first | rfl | assumption) i21 (by omega) ?_
      refine b_iconst rfl ?_
      exact b_ireturn rfl (by first | exact Or.inl rfl | exact Or.inr rfl | exact trivial) (⟨post, rfl⟩)
  by_cases hx : sp_in x N.1
  · by_cases hy : sp_in y N.1
    · by_cases hz9 : sp_w30 z
      · have hz8 : (0 : Int32).toInt ≤ z.toInt ∧ z.toInt ≤ (30 : Int32).toInt := ⟨by rw [hi_t0]; exact hz9.1, by rw [t30]; exact hz9.2⟩
        by_cases e : I 204 22 = x
        · by_cases e8 : V.2.1 = 8
          · rw [v_see, if_pos ⟨hx, hy, hz9⟩, sp_see, if_pos (h8e.mpr ⟨e, e8⟩)]
            refine b_aload_n rfl rfl ?_
            refine b_iconst rfl ?_
            refine b_putI rfl (by first | rfl | assumption) rfl rfl ⟨rfl, rfl⟩ ?_
            have hB1 := hs_B_0 (v := 0) hB
            have hs0 : hs_sm I J R (hn_u I 188 0 0, J, R) := hs_sm_0
            obtain ⟨I0, h0⟩ : ∃ z, z = hn_u I 188 0 0 := ⟨_, rfl⟩
            rw [← h0] at hB1 hs0 ⊢
            have e0 : ∀ b, b ≠ 188 → I0 b = I b := fun b hb => by rw [h0, hn_u_ne _ _ _ hb]
            have e188 : ∀ j, j ≠ 0 → I0 188 j = I 188 j := fun j hj => by rw [h0, hn_u_eq, va_up, if_neg hj]
            have hB2 := hB1
            obtain ⟨hR, hN, hQ, hfm, hw, hAw⟩ := hB1
            have hM := hs_M_of hR
            have hN0 := hN
            have hQ0 := hQ
            have hw0 := hw
            obtain ⟨⟨hn, n8, hnp, n4, hkn⟩, hL⟩ := hN
            obtain ⟨⟨_, hVs, hVw, hVp, hVh⟩, hVt⟩ := hQ
            simp only [Nat.zero_add] at hVs hVw hVp hVh
            obtain ⟨m1, m4, m5, m6, m9, m10, m11, m12, m14, m15, m16, m17, m20, m21, m22, m23, m25, m27, m28, m29, m30, m31, m32⟩ := id hM
            refine b_aload_n rfl rfl ?_
            refine b_getR rfl (by first | rfl | assumption) rfl (by assumption) ?_
            refine b_bipush rfl ?_
            refine b_iaload rfl (by first | rfl | assumption) i22 (by omega) ?_
            refine b_iload_n rfl rfl ?_
            refine b_icmp_eq rfl (fun c_13 => ?_) (fun c_13 => ?_)
            · refine b_iconst rfl ?_
              refine b_istore rfl (Nat.le_of_ble_eq_true rfl) ?_
              refine b_aload_n rfl rfl ?_
              refine b_iload_n rfl rfl ?_
              refine b_callV rfl rfl hk_M_isKnot rfl rfl rfl (by first | rfl | assumption) rfl (Nat.le_of_ble_eq_true rfl) (q_M_isKnot hM hn n8) (Nat.le_of_ble_eq_true rfl) (fun r_25 D_25 q_25 => ?_)
              obtain ⟨rfl, hq⟩ := q_25
              rw [if_pos hx] at hq
              subst hq
              refine b_if_eq rfl (fun c_28 => ?_) (fun c_28 => ?_)
              · exact absurd c_28 (by decide)
              · refine b_aload_n rfl rfl ?_
                refine b_iload_n rfl rfl ?_
                refine b_callV rfl rfl hk_M_isKnot rfl rfl rfl (by first | rfl | assumption) rfl (Nat.le_of_ble_eq_true rfl) (q_M_isKnot hM hn n8) (Nat.le_of_ble_eq_true rfl) (fun r_33 D_33 q_33 => ?_)
                obtain ⟨rfl, hq⟩ := q_33
                rw [if_pos hy] at hq
                subst hq
                refine b_if_eq rfl (fun c_36 => ?_) (fun c_36 => ?_)
                · exact absurd c_36 (by decide)
                · refine b_iload_n rfl rfl ?_
                  refine b_iconst rfl ?_
                  refine b_bipush rfl ?_
                  refine b_callS rfl rfl hk_M_within rfl rfl rfl (Nat.le_of_ble_eq_true rfl) (q_M_within) (Nat.le_of_ble_eq_true rfl) (fun r_43 D_43 q_43 => ?_)
                  obtain ⟨rfl, hq⟩ := q_43
                  rw [if_pos hz8] at hq
                  subst hq
                  refine b_if_eq rfl (fun c_46 => ?_) (fun c_46 => ?_)
                  · exact absurd c_46 (by decide)
                  · refine b_iload rfl rfl ?_
                    refine b_if_ne rfl (fun c_51 => ?_) (fun c_51 => ?_)
                    · exact absurd rfl c_51
                    · refine b_aload_n rfl rfl ?_
                      refine b_getR rfl (by first | rfl | assumption) rfl (by assumption) ?_
                      refine b_bipush rfl ?_
                      refine b_iaload rfl (by first | rfl | assumption) i21 (by omega) ?_
                      rw [e0 204 (by omega), v1, e8]
                      refine b_bipush rfl ?_
                      refine b_icmp_ne rfl (fun c_63 => ?_) (fun c_63 => ?_)
                      · exact absurd rfl c_63
                      · refine b_iconst rfl ?_
                        exact b_ireturn rfl (by first | exact Or.inl rfl | exact Or.inr rfl | exact trivial) (⟨hs_vm_r e0 e188 hV0, rfl⟩)
            · exact absurd ((congrFun (e0 204 (by omega)) 22).trans e) c_13
          · have hv : v_see N V x y z b = ((x, m + 1, va_up V.2.2.1 m y, va_up V.2.2.2.1 m z, va_up V.2.2.2.2 m b), 1) := by rw [v_see, if_pos ⟨hx, hy, hz9⟩, sp_see, if_neg (fun w => e8 w.2), ← hmd]
            have hmv : m = V.2.1 := by rw [hmd2, if_pos e]
            refine b_aload_n rfl rfl ?_
            refine b_iconst rfl ?_
            refine b_putI rfl (by first | rfl | assumption) rfl rfl ⟨rfl, rfl⟩ ?_
            have hB1 := hs_B_0 (v := 0) hB
            have hs0 : hs_sm I J R (hn_u I 188 0 0, J, R) := hs_sm_0
            obtain ⟨I0, h0⟩ : ∃ z, z = hn_u I 188 0 0 := ⟨_, rfl⟩
            rw [← h0] at hB1 hs0 ⊢
            have e0 : ∀ b, b ≠ 188 → I0 b = I b := fun b hb => by rw [h0, hn_u_ne _ _ _ hb]
            have e188 : ∀ j, j ≠ 0 → I0 188 j = I 188 j := fun j hj => by rw [h0, hn_u_eq, va_up, if_neg hj]
            have hB2 := hB1
            obtain ⟨hR, hN, hQ, hfm, hw, hAw⟩ := hB1
            have hM := hs_M_of hR
            have hN0 := hN
            have hQ0 := hQ
            have hw0 := hw
            obtain ⟨⟨hn, n8, hnp, n4, hkn⟩, hL⟩ := hN
            obtain ⟨⟨_, hVs, hVw, hVp, hVh⟩, hVt⟩ := hQ
            simp only [Nat.zero_add] at hVs hVw hVp hVh
            obtain ⟨m1, m4, m5, m6, m9, m10, m11, m12, m14, m15, m16, m17, m20, m21, m22, m23, m25, m27, m28, m29, m30, m31, m32⟩ := id hM
            refine b_aload_n rfl rfl ?_
            refine b_getR rfl (by first | rfl | assumption) rfl (by assumption) ?_
            refine b_bipush rfl ?_
            refine b_iaload rfl (by first | rfl | assumption) i22 (by omega) ?_
            refine b_iload_n rfl rfl ?_
            refine b_icmp_eq rfl (fun c_13 => ?_) (fun c_13 => ?_)
            · refine b_iconst rfl ?_
              refine b_istore rfl (Nat.le_of_ble_eq_true rfl) ?_
              refine b_aload_n rfl rfl ?_
              refine b_iload_n rfl rfl ?_
              refine b_callV rfl rfl hk_M_isKnot rfl rfl rfl (by first | rfl | assumption) rfl (Nat.le_of_ble_eq_true rfl) (q_M_isKnot hM hn n8) (Nat.le_of_ble_eq_true rfl) (fun r_25 D_25 q_25 => ?_)
              obtain ⟨rfl, hq⟩ := q_25
              rw [if_pos hx] at hq
              subst hq
              refine b_if_eq rfl (fun c_28 => ?_) (fun c_28 => ?_)
              · exact absurd c_28 (by decide)
              · refine b_aload_n rfl rfl ?_
                refine b_iload_n rfl rfl ?_
                refine b_callV rfl rfl hk_M_isKnot rfl rfl rfl (by first | rfl | assumption) rfl (Nat.le_of_ble_eq_true rfl) (q_M_isKnot hM hn n8) (Nat.le_of_ble_eq_true rfl) (fun r_33 D_33 q_33 => ?_)
                obtain ⟨rfl, hq⟩ := q_33
                rw [if_pos hy] at hq
                subst hq
                refine b_if_eq rfl (fun c_36 => ?_) (fun c_36 => ?_)
                · exact absurd c_36 (by decide)
                · refine b_iload_n rfl rfl ?_
                  refine b_iconst rfl ?_
                  refine b_bipush rfl ?_
                  refine b_callS rfl rfl hk_M_within rfl rfl rfl (Nat.le_of_ble_eq_true rfl) (q_M_within) (Nat.le_of_ble_eq_true rfl) (fun r_43 D_43 q_43 => ?_)
                  obtain ⟨rfl, hq⟩ := q_43
                  rw [if_pos hz8] at hq
                  subst hq
                  refine b_if_eq rfl (fun c_46 => ?_) (fun c_46 => ?_)
                  · exact absurd c_46 (by decide)
                  · refine b_iload rfl rfl ?_
                    refine b_if_ne rfl (fun c_51 => ?_) (fun c_51 => ?_)
                    · exact absurd rfl c_51
                    · refine b_aload_n rfl rfl ?_
                      refine b_getR rfl (by first | rfl | assumption) rfl (by assumption) ?_
                      refine b_bipush rfl ?_
                      refine b_iaload rfl (by first | rfl | assumption) i21 (by omega) ?_
                      rw [e0 204 (by omega), v1]
                      refine b_bipush rfl ?_
                      refine b_icmp_ne rfl (fun c_63 => ?_) (fun c_63 => ?_)
                      · refine b_aload_n rfl rfl ?_
                        refine b_getR rfl (by first | rfl | assumption) rfl (by assumption) ?_
                        refine b_bipush rfl ?_
                        refine b_iload rfl rfl ?_
                        refine b_if_eq rfl (fun c_76 => ?_) (fun c_76 => ?_)
                        · refine b_aload_n rfl rfl ?_
                          refine b_getR rfl (by first | rfl | assumption) rfl (by assumption) ?_
                          refine b_bipush rfl ?_
                          refine b_iaload rfl (by first | rfl | assumption) i21 (by omega) ?_
                          rw [e0 204 (by omega), v1, ← hmv]
                          refine b_iastore rfl (by first | rfl | assumption) i21 (by omega) ?_
                          exact L91 _ I0 hM e0 e188 (by omega) hv
                        · exact absurd rfl c_76
                      · exact absurd ((hi_nIe (k := 8) (by omega) (by omega)).mp c_63) e8
            · exact absurd ((congrFun (e0 204 (by omega)) 22).trans e) c_13
        · have hv : v_see N V x y z b = ((x, m + 1, va_up V.2.2.1 m y, va_up V.2.2.2.1 m z, va_up V.2.2.2.2 m b), 1) := by rw [v_see, if_pos ⟨hx, hy, hz9⟩, sp_see, if_neg (fun w => e (h8e.mp w).1), ← hmd]
          have hmv : m = 0 := by rw [hmd2, if_neg e]
          refine b_aload_n rfl rfl ?_
          refine b_iconst rfl ?_
          refine b_putI rfl (by first | rfl | assumption) rfl rfl ⟨rfl, rfl⟩ ?_
          have hB1 := hs_B_0 (v := 0) hB
          have hs0 : hs_sm I J R (hn_u I 188 0 0, J, R) := hs_sm_0
          obtain ⟨I0, h0⟩ : ∃ z, z = hn_u I 188 0 0 := ⟨_, rfl⟩
          rw [← h0] at hB1 hs0 ⊢
          have e0 : ∀ b, b ≠ 188 → I0 b = I b := fun b hb => by rw [h0, hn_u_ne _ _ _ hb]
          have e188 : ∀ j, j ≠ 0 → I0 188 j = I 188 j := fun j hj => by rw [h0, hn_u_eq, va_up, if_neg hj]
          have hB2 := hB1
          obtain ⟨hR, hN, hQ, hfm, hw, hAw⟩ := hB1
          have hM := hs_M_of hR
          have hN0 := hN
          have hQ0 := hQ
          have hw0 := hw
          obtain ⟨⟨hn, n8, hnp, n4, hkn⟩, hL⟩ := hN
          obtain ⟨⟨_, hVs, hVw, hVp, hVh⟩, hVt⟩ := hQ
          simp only [Nat.zero_add] at hVs hVw hVp hVh
          obtain ⟨m1, m4, m5, m6, m9, m10, m11, m12, m14, m15, m16, m17, m20, m21, m22, m23, m25, m27, m28, m29, m30, m31, m32⟩ := id hM
          refine b_aload_n rfl rfl ?_
          refine b_getR rfl (by first | rfl | assumption) rfl (by assumption) ?_
          refine b_bipush rfl ?_
          refine b_iaload rfl (by first | rfl | assumption) i22 (by omega) ?_
          refine b_iload_n rfl rfl ?_
          refine b_icmp_eq rfl (fun c_13 => ?_) (fun c_13 => ?_)
          · exact absurd ((congrFun (e0 204 (by omega)) 22).symm.trans c_13) e
          · refine b_iconst rfl ?_
            refine b_goto rfl ?_
            refine b_istore rfl (Nat.le_of_ble_eq_true rfl) ?_
            refine b_aload_n rfl rfl ?_
            refine b_iload_n rfl rfl ?_
            refine b_callV rfl rfl hk_M_isKnot rfl rfl rfl (by first | rfl | assumption) rfl (Nat.le_of_ble_eq_true rfl) (q_M_isKnot hM hn n8) (Nat.le_of_ble_eq_true rfl) (fun r_25 D_25 q_25 => ?_)
            obtain ⟨rfl, hq⟩ := q_25
            rw [if_pos hx] at hq
            subst hq
            refine b_if_eq rfl (fun c_28 => ?_) (fun c_28 => ?_)
            · exact absurd c_28 (by decide)
            · refine b_aload_n rfl rfl ?_
              refine b_iload_n rfl rfl ?_
              refine b_callV rfl rfl hk_M_isKnot rfl rfl rfl (by first | rfl | assumption) rfl (Nat.le_of_ble_eq_true rfl) (q_M_isKnot hM hn n8) (Nat.le_of_ble_eq_true rfl) (fun r_33 D_33 q_33 => ?_)
              obtain ⟨rfl, hq⟩ := q_33
              rw [if_pos hy] at hq
              subst hq
              refine b_if_eq rfl (fun c_36 => ?_) (fun c_36 => ?_)
              · exact absurd c_36 (by decide)
              · refine b_iload_n rfl rfl ?_
                refine b_iconst rfl ?_
                refine b_bipush rfl ?_
                refine b_callS rfl rfl hk_M_within rfl rfl rfl (Nat.le_of_ble_eq_true rfl) (q_M_within) (Nat.le_of_ble_eq_true rfl) (fun r_43 D_43 q_43 => ?_)
                obtain ⟨rfl, hq⟩ := q_43
                rw [if_pos hz8] at hq
                subst hq
                refine b_if_eq rfl (fun c_46 => ?_) (fun c_46 => ?_)
                · exact absurd c_46 (by decide)
                · refine b_iload rfl rfl ?_
                  refine b_if_ne rfl (fun c_51 => ?_) (fun c_51 => ?_)
                  · refine b_aload_n rfl rfl ?_
                    refine b_getR rfl (by first | rfl | assumption) rfl (by assumption) ?_
                    refine b_bipush rfl ?_
                    refine b_iload rfl rfl ?_
                    refine b_if_eq rfl (fun c_76 => ?_) (fun c_76 => ?_)
                    · exact absurd c_76 (by decide)
                    · refine b_iconst rfl ?_
                      refine b_goto rfl ?_
                      rw [show (0 : Int32) = nI m by rw [hmv]; rfl]
                      refine b_iastore rfl (by first | rfl | assumption) i21 (by omega) ?_
                      exact L91 _ I0 hM e0 e188 (by omega) hv
                  · exact absurd c_51 (by decide)
      · have hz8 : ¬ ((0 : Int32).toInt ≤ z.toInt ∧ z.toInt ≤ (30 : Int32).toInt) := fun w => hz9 ⟨by have := w.1; rw [hi_t0] at this; exact this, by have := w.2; rw [t30] at this; exact this⟩
        rw [v_see, if_neg (fun e => hz9 e.2.2)]
        refine b_aload_n rfl rfl ?_
        refine b_iconst rfl ?_
        refine b_putI rfl (by first | rfl | assumption) rfl rfl ⟨rfl, rfl⟩ ?_
        have hB1 := hs_B_0 (v := 0) hB
        have hs0 : hs_sm I J R (hn_u I 188 0 0, J, R) := hs_sm_0
        obtain ⟨I0, h0⟩ : ∃ z, z = hn_u I 188 0 0 := ⟨_, rfl⟩
        rw [← h0] at hB1 hs0 ⊢
        have e0 : ∀ b, b ≠ 188 → I0 b = I b := fun b hb => by rw [h0, hn_u_ne _ _ _ hb]
        have e188 : ∀ j, j ≠ 0 → I0 188 j = I 188 j := fun j hj => by rw [h0, hn_u_eq, va_up, if_neg hj]
        have hB2 := hB1
        obtain ⟨hR, hN, hQ, hfm, hw, hAw⟩ := hB1
        have hM := hs_M_of hR
        have hN0 := hN
        have hQ0 := hQ
        have hw0 := hw
        obtain ⟨⟨hn, n8, hnp, n4, hkn⟩, hL⟩ := hN
        obtain ⟨⟨_, hVs, hVw, hVp, hVh⟩, hVt⟩ := hQ
        simp only [Nat.zero_add] at hVs hVw hVp hVh
        obtain ⟨m1, m4, m5, m6, m9, m10, m11, m12, m14, m15, m16, m17, m20, m21, m22, m23, m25, m27, m28, m29, m30, m31, m32⟩ := id hM
        refine b_aload_n rfl rfl ?_
        refine b_getR rfl (by first | rfl | assumption) rfl (by assumption) ?_
        refine b_bipush rfl ?_
        refine b_iaload rfl (by first | rfl | assumption) i22 (by omega) ?_
        refine b_iload_n rfl rfl ?_
        refine b_icmp_eq rfl (fun c_13 => ?_) (fun c_13 => ?_)
        · refine b_iconst rfl ?_
          refine b_istore rfl (Nat.le_of_ble_eq_true rfl) ?_
          refine b_aload_n rfl rfl ?_
          refine b_iload_n rfl rfl ?_
          refine b_callV rfl rfl hk_M_isKnot rfl rfl rfl (by first | rfl | assumption) rfl (Nat.le_of_ble_eq_true rfl) (q_M_isKnot hM hn n8) (Nat.le_of_ble_eq_true rfl) (fun r_25 D_25 q_25 => ?_)
          obtain ⟨rfl, hq⟩ := q_25
          rw [if_pos hx] at hq
          subst hq
          refine b_if_eq rfl (fun c_28 => ?_) (fun c_28 => ?_)
          · exact absurd c_28 (by decide)
          · refine b_aload_n rfl rfl ?_
            refine b_iload_n rfl rfl ?_
            refine b_callV rfl rfl hk_M_isKnot rfl rfl rfl (by first | rfl | assumption) rfl (Nat.le_of_ble_eq_true rfl) (q_M_isKnot hM hn n8) (Nat.le_of_ble_eq_true rfl) (fun r_33 D_33 q_33 => ?_)
            obtain ⟨rfl, hq⟩ := q_33
            rw [if_pos hy] at hq
            subst hq
            refine b_if_eq rfl (fun c_36 => ?_) (fun c_36 => ?_)
            · exact absurd c_36 (by decide)
            · refine b_iload_n rfl rfl ?_
              refine b_iconst rfl ?_
              refine b_bipush rfl ?_
              refine b_callS rfl rfl hk_M_within rfl rfl rfl (Nat.le_of_ble_eq_true rfl) (q_M_within) (Nat.le_of_ble_eq_true rfl) (fun r_43 D_43 q_43 => ?_)
              obtain ⟨rfl, hq⟩ := q_43
              rw [if_neg hz8] at hq
              subst hq
              refine b_if_eq rfl (fun c_46 => ?_) (fun c_46 => ?_)
              · refine b_iconst rfl ?_
                exact b_ireturn rfl (by first | exact Or.inl rfl | exact Or.inr rfl | exact trivial) (⟨hs_vm_r e0 e188 hV0, rfl⟩)
              · exact absurd rfl c_46
        · refine b_iconst rfl ?_
          refine b_goto rfl ?_
          refine b_istore rfl (Nat.le_of_ble_eq_true rfl) ?_
          refine b_aload_n rfl rfl ?_
          refine b_iload_n rfl rfl ?_
          refine b_callV rfl rfl hk_M_isKnot rfl rfl rfl (by first | rfl | assumption) rfl (Nat.le_of_ble_eq_true rfl) (q_M_isKnot hM hn n8) (Nat.le_of_ble_eq_true rfl) (fun r_25 D_25 q_25 => ?_)
          obtain ⟨rfl, hq⟩ := q_25
          rw [if_pos hx] at hq
          subst hq
          refine b_if_eq rfl (fun c_28 => ?_) (fun c_28 => ?_)
          · exact absurd c_28 (by decide)
          · refine b_aload_n rfl rfl ?_
            refine b_iload_n rfl rfl ?_
            refine b_callV rfl rfl hk_M_isKnot rfl rfl rfl (by first | rfl | assumption) rfl (Nat.le_of_ble_eq_true rfl) (q_M_isKnot hM hn n8) (Nat.le_of_ble_eq_true rfl) (fun r_33 D_33 q_33 => ?_)
            obtain ⟨rfl, hq⟩ := q_33
            rw [if_pos hy] at hq
            subst hq
            refine b_if_eq rfl (fun c_36 => ?_) (fun c_36 => ?_)
            · exact absurd c_36 (by decide)
            · refine b_iload_n rfl rfl ?_
              refine b_iconst rfl ?_
              refine b_bipush rfl ?_
              refine b_callS rfl rfl hk_M_within rfl rfl rfl (Nat.le_of_ble_eq_true rfl) (q_M_within) (Nat.le_of_ble_eq_true rfl) (fun r_43 D_43 q_43 => ?_)
              obtain ⟨rfl, hq⟩ := q_43
              rw [if_neg hz8] at hq
              subst hq
              refine b_if_eq rfl (fun c_46 => ?_) (fun c_46 => ?_)
              · refine b_iconst rfl ?_
                exact b_ireturn rfl (by first | exact Or.inl rfl | exact Or.inr rfl | exact trivial) (⟨hs_vm_r e0 e188 hV0, rfl⟩)
              · exact absurd rfl c_46
    · rw [v_see, if_neg (fun e => hy e.2.1)]
      refine b_aload_n rfl rfl ?_
      refine b_iconst rfl ?_
      refine b_putI rfl (by first | rfl | assumption) rfl rfl ⟨rfl, rfl⟩ ?_
      have hB1 := hs_B_0 (v := 0) hB
      have hs0 : hs_sm I J R (hn_u I 188 0 0, J, R) := hs_sm_0
      obtain ⟨I0, h0⟩ : ∃ z, z = hn_u I 188 0 0 := ⟨_, rfl⟩
      rw [← h0] at hB1 hs0 ⊢
      have e0 : ∀ b, b ≠ 188 → I0 b = I b := fun b hb => by rw [h0, hn_u_ne _ _ _ hb]
      have e188 : ∀ j, j ≠ 0 → I0 188 j = I 188 j := fun j hj => by rw [h0, hn_u_eq, va_up, if_neg hj]
      have hB2 := hB1
      obtain ⟨hR, hN, hQ, hfm, hw, hAw⟩ := hB1
      have hM := hs_M_of hR
      have hN0 := hN
      have hQ0 := hQ
      have hw0 := hw
      obtain ⟨⟨hn, n8, hnp, n4, hkn⟩, hL⟩ := hN
      obtain ⟨⟨_, hVs, hVw, hVp, hVh⟩, hVt⟩ := hQ
      simp only [Nat.zero_add] at hVs hVw hVp hVh
      obtain ⟨m1, m4, m5, m6, m9, m10, m11, m12, m14, m15, m16, m17, m20, m21, m22, m23, m25, m27, m28, m29, m30, m31, m32⟩ := id hM
      refine b_aload_n rfl rfl ?_
      refine b_getR rfl (by first | rfl | assumption) rfl (by assumption) ?_
      refine b_bipush rfl ?_
      refine b_iaload rfl (by first | rfl | assumption) i22 (by omega) ?_
      refine b_iload_n rfl rfl ?_
      refine b_icmp_eq rfl (fun c_13 => ?_) (fun c_13 => ?_)
      · refine b_iconst rfl ?_
        refine b_istore rfl (Nat.le_of_ble_eq_true rfl) ?_
        refine b_aload_n rfl rfl ?_
        refine b_iload_n rfl rfl ?_
        refine b_callV rfl rfl hk_M_isKnot rfl rfl rfl (by first | rfl | assumption) rfl (Nat.le_of_ble_eq_true rfl) (q_M_isKnot hM hn n8) (Nat.le_of_ble_eq_true rfl) (fun r_25 D_25 q_25 => ?_)
        obtain ⟨rfl, hq⟩ := q_25
        rw [if_pos hx] at hq
        subst hq
        refine b_if_eq rfl (fun c_28 => ?_) (fun c_28 => ?_)
        · exact absurd c_28 (by decide)
        · refine b_aload_n rfl rfl ?_
          refine b_iload_n rfl rfl ?_
          refine b_callV rfl rfl hk_M_isKnot rfl rfl rfl (by first | rfl | assumption) rfl (Nat.le_of_ble_eq_true rfl) (q_M_isKnot hM hn n8) (Nat.le_of_ble_eq_true rfl) (fun r_33 D_33 q_33 => ?_)
          obtain ⟨rfl, hq⟩ := q_33
          rw [if_neg hy] at hq
          subst hq
          refine b_if_eq rfl (fun c_36 => ?_) (fun c_36 => ?_)
          · refine b_iconst rfl ?_
            exact b_ireturn rfl (by first | exact Or.inl rfl | exact Or.inr rfl | exact trivial) (⟨hs_vm_r e0 e188 hV0, rfl⟩)
          · exact absurd rfl c_36
      · refine b_iconst rfl ?_
        refine b_goto rfl ?_
        refine b_istore rfl (Nat.le_of_ble_eq_true rfl) ?_
        refine b_aload_n rfl rfl ?_
        refine b_iload_n rfl rfl ?_
        refine b_callV rfl rfl hk_M_isKnot rfl rfl rfl (by first | rfl | assumption) rfl (Nat.le_of_ble_eq_true rfl) (q_M_isKnot hM hn n8) (Nat.le_of_ble_eq_true rfl) (fun r_25 D_25 q_25 => ?_)
        obtain ⟨rfl, hq⟩ := q_25
        rw [if_pos hx] at hq
        subst hq
        refine b_if_eq rfl (fun c_28 => ?_) (fun c_28 => ?_)
        · exact absurd c_28 (by decide)
        · refine b_aload_n rfl rfl ?_
          refine b_iload_n rfl rfl ?_
          refine b_callV rfl rfl hk_M_isKnot rfl rfl rfl (by first | rfl | assumption) rfl (Nat.le_of_ble_eq_true rfl) (q_M_isKnot hM hn n8) (Nat.le_of_ble_eq_true rfl) (fun r_33 D_33 q_33 => ?_)
          obtain ⟨rfl, hq⟩ := q_33
          rw [if_neg hy] at hq
          subst hq
          refine b_if_eq rfl (fun c_36 => ?_) (fun c_36 => ?_)
          · refine b_iconst rfl ?_
            exact b_ireturn rfl (by first | exact Or.inl rfl | exact Or.inr rfl | exact trivial) (⟨hs_vm_r e0 e188 hV0, rfl⟩)
          · exact absurd rfl c_36
  · rw [v_see, if_neg (fun e => hx e.1)]
    refine b_aload_n rfl rfl ?_
    refine b_iconst rfl ?_
    refine b_putI rfl (by first | rfl | assumption) rfl rfl ⟨rfl, rfl⟩ ?_
    have hB1 := hs_B_0 (v := 0) hB
    have hs0 : hs_sm I J R (hn_u I 188 0 0, J, R) := hs_sm_0
    obtain ⟨I0, h0⟩ : ∃ z, z = hn_u I 188 0 0 := ⟨_, rfl⟩
    rw [← h0] at hB1 hs0 ⊢
    have e0 : ∀ b, b ≠ 188 → I0 b = I b := fun b hb => by rw [h0, hn_u_ne _ _ _ hb]
    have e188 : ∀ j, j ≠ 0 → I0 188 j = I 188 j := fun j hj => by rw [h0, hn_u_eq, va_up, if_neg hj]
    have hB2 := hB1
    obtain ⟨hR, hN, hQ, hfm, hw, hAw⟩ := hB1
    have hM := hs_M_of hR
    have hN0 := hN
    have hQ0 := hQ
    have hw0 := hw
    obtain ⟨⟨hn, n8, hnp, n4, hkn⟩, hL⟩ := hN
    obtain ⟨⟨_, hVs, hVw, hVp, hVh⟩, hVt⟩ := hQ
    simp only [Nat.zero_add] at hVs hVw hVp hVh
    obtain ⟨m1, m4, m5, m6, m9, m10, m11, m12, m14, m15, m16, m17, m20, m21, m22, m23, m25, m27, m28, m29, m30, m31, m32⟩ := id hM
    refine b_aload_n rfl rfl ?_
    refine b_getR rfl (by first | rfl | assumption) rfl (by assumption) ?_
    refine b_bipush rfl ?_
    refine b_iaload rfl (by first | rfl | assumption) i22 (by omega) ?_
    refine b_iload_n rfl rfl ?_
    refine b_icmp_eq rfl (fun c_13 => ?_) (fun c_13 => ?_)
    · refine b_iconst rfl ?_
      refine b_istore rfl (Nat.le_of_ble_eq_true rfl) ?_
      refine b_aload_n rfl rfl ?_
      refine b_iload_n rfl rfl ?_
      refine b_callV rfl rfl hk_M_isKnot rfl rfl rfl (by first | rfl | assumption) rfl (Nat.le_of_ble_eq_true rfl) (q_M_isKnot hM hn n8) (Nat.le_of_ble_eq_true rfl) (fun r_25 D_25 q_25 => ?_)
      obtain ⟨rfl, hq⟩ := q_25
      rw [if_neg hx] at hq
      subst hq
      refine b_if_eq rfl (fun c_28 => ?_) (fun c_28 => ?_)
      · refine b_iconst rfl ?_
        exact b_ireturn rfl (by first | exact Or.inl rfl | exact Or.inr rfl | exact trivial) (⟨hs_vm_r e0 e188 hV0, rfl⟩)
      · exact absurd rfl c_28
    · refine b_iconst rfl ?_
      refine b_goto rfl ?_
      refine b_istore rfl (Nat.le_of_ble_eq_true rfl) ?_
      refine b_aload_n rfl rfl ?_
      refine b_iload_n rfl rfl ?_
      refine b_callV rfl rfl hk_M_isKnot rfl rfl rfl (by first | rfl | assumption) rfl (Nat.le_of_ble_eq_true rfl) (q_M_isKnot hM hn n8) (Nat.le_of_ble_eq_true rfl) (fun r_25 D_25 q_25 => ?_)
      obtain ⟨rfl, hq⟩ := q_25
      rw [if_neg hx] at hq
      subst hq
      refine b_if_eq rfl (fun c_28 => ?_) (fun c_28 => ?_)
      · refine b_iconst rfl ?_
        exact b_ireturn rfl (by first | exact Or.inl rfl | exact Or.inr rfl | exact trivial) (⟨hs_vm_r e0 e188 hV0, rfl⟩)
      · exact absurd rfl c_28
/-! marks -/
def hs_km (I : Nat → Nat → Int32) (J : Nat → Nat → Int64) (R : Nat → Nat → Option Nat) (Y : sp_Y) (D : hnD) : Prop := D.2.1 = J ∧ D.2.2 = R ∧ (∀ b, ¬ (b = 188 ∨ b = 204 ∨ b = 205) → D.1 b = I b) ∧ (∀ j, j ≠ 0 → j ≠ 24 → D.1 188 j = I 188 j) ∧ (∀ j, 235 ≤ j → D.1 204 j = I 204 j) ∧ D.1 188 24 = nI Y.1.2.1 ∧ hs_Qm D.1 0 Y.1.1 ∧ hs_Vm D.1 0 Y.2.1 ∧ hs_Km D.1 Y.2.2
theorem hs_Km_fr {K : sp_K} (hK : hs_Km I K) (h5 : I' 205 = I 205) (hf : ∀ j, 47 ≤ j → j < 235 → I' 204 j = I 204 j) : hs_Km I' K := by
  intro j hj
  have hKj := hK j hj
  rw [h5]
  cases hc : K j with
  | none => rw [hc] at hKj; exact hKj
  | some q => rw [hc] at hKj; exact ⟨hKj.1, hs_Qm_fr hKj.2.1 (by omega) (fun i hi => hf _ (by omega) (by omega)), hs_Vm_fr hKj.2.2 (fun i h1 h2 => hf _ (by omega) (by omega))⟩
theorem hs_km_r {I0 : Nat → Nat → Int32} {Y : sp_Y} (e0 : ∀ b, b ≠ 188 → I0 b = I b) (e188 : ∀ j, j ≠ 0 → I0 188 j = I 188 j) (hQ : hs_Qm I 0 Y.1.1) (hp : I 188 24 = nI Y.1.2.1) (hV : hs_Vm I 0 Y.2.1) (hK : hs_Km I Y.2.2) : hs_km I J R Y (I0, J, R) :=
  ⟨rfl, rfl, fun b hb => e0 b (by omega), fun j h _ => e188 j h, fun j _ => congrFun (e0 204 (by omega)) j, (e188 24 (by omega)).trans hp, hs_Qm_fr hQ (by omega) (fun j _ => congrFun (e0 204 (by omega)) _), hs_Vm_fr hV (fun j _ _ => congrFun (e0 204 (by omega)) _), hs_Km_fr hK (e0 205 (by omega)) (fun j _ _ => congrFun (e0 204 (by omega)) _)⟩
theorem km_lay {I0 I2 : Nat → Nat → Int32} {Y : sp_Y} {m : Nat} {v : Int32} (hm : m < 4) (e0 : ∀ b, b ≠ 188 → I0 b = I b) (e188 : ∀ j, j ≠ 0 → I0 188 j = I 188 j) (hQ : hs_Qm I 0 Y.1.1) (hV : hs_Vm I 0 Y.2.1) (hK : hs_Km I Y.2.2)
    (hI2 : ∀ b, ¬ b = 204 → I2 b = hn_u I0 205 m 1 b) (h204 : I2 204 = va_cpy (hn_u I0 205 m 1 204) (hn_u I0 205 m 1 204) 0 (47 * (1 + m)) 47) (hv : v = nI Y.1.2.1) : hs_km I J R (Y.1, Y.2.1, va_up Y.2.2 m (some (Y.1.1, Y.2.1))) (hn_u I2 188 24 v, J, R) := by
  have a0 : hn_u I0 205 m 1 204 = I 204 := by rw [hn_u_ne _ _ _ (by omega), e0 204 (by omega)]
  rw [a0] at h204
  have b4 : hn_u I2 188 24 v 204 = I2 204 := hn_u_ne _ _ _ (by omega)
  have b5 : hn_u I2 188 24 v 205 = va_up (I 205) m 1 := by rw [hn_u_ne _ _ _ (by omega), hI2 205 (by omega), hn_u_eq, e0 205 (by omega)]
  have off : ∀ j, ¬ (47 * (1 + m) ≤ j ∧ j < 47 * (1 + m) + 47) → hn_u I2 188 24 v 204 j = I 204 j := fun j hj => by rw [b4, h204, cp_off hj]
  have on : ∀ j, j < 47 → hn_u I2 188 24 v 204 (47 * (1 + m) + j) = I 204 (0 + j) := fun j hj => by rw [b4, h204, cp_at hj]
  refine ⟨rfl, rfl, fun b hb => ?_, fun j h1 h2 => ?_, fun j hj => off j (by omega), ?_, hs_Qm_fr hQ (by omega) (fun j hj => off _ (by omega)), hs_Vm_fr hV (fun j _ _ => off _ (by omega)), fun j hj => ?_⟩
  · show hn_u I2 188 24 v b = I b
    rw [hn_u_ne _ _ _ (by omega), hI2 b (by omega), hn_u_ne _ _ _ (by omega), e0 b (by omega)]
  · show hn_u I2 188 24 v 188 j = I 188 j
    rw [hn_u_eq, va_up, if_neg h2, hI2 188 (by omega), hn_u_ne _ _ _ (by omega), e188 j h1]
  · show hn_u I2 188 24 v 188 24 = _
    rw [hn_u_eq, va_up, if_pos rfl]; exact hv
  · show match va_up Y.2.2 m (some (Y.1.1, Y.2.1)) j with | none => hn_u I2 188 24 v 205 j = 0 | some q => hn_u I2 188 24 v 205 j = 1 ∧ hs_Qm (hn_u I2 188 24 v) (47 * (1 + j)) q.1 ∧ hs_Vm (hn_u I2 188 24 v) (47 * (1 + j)) q.2
    rw [b5]
    by_cases e : j = m
    · subst e
      rw [show va_up Y.2.2 j (some (Y.1.1, Y.2.1)) j = some (Y.1.1, Y.2.1) by rw [va_up, if_pos rfl], show va_up (I 205) j 1 j = 1 by rw [va_up, if_pos rfl]]
      exact ⟨rfl, hs_Qm_fr hQ (by omega) (fun i hi => on i (by omega)), hs_Vm_fr hV (fun i _ h2 => on i h2)⟩
    · have hKj := hK j hj
      rw [show va_up Y.2.2 m (some (Y.1.1, Y.2.1)) j = Y.2.2 j by rw [va_up, if_neg e], show va_up (I 205) m 1 j = I 205 j by rw [va_up, if_neg e]]
      cases hc : Y.2.2 j with
      | none => rw [hc] at hKj; exact hKj
      | some q => rw [hc] at hKj; exact ⟨hKj.1, hs_Qm_fr hKj.2.1 (by omega) (fun i hi => off _ (by omega)), hs_Vm_fr hKj.2.2 (fun i h1 h2 => off _ (by omega))⟩
theorem km_back {I0 I2 : Nat → Nat → Int32} {Y : sp_Y} {q : sp_Q × sp_V} {m : Nat} (hm : m < 4) (hq : Y.2.2 m = some q) (e0 : ∀ b, b ≠ 188 → I0 b = I b) (e188 : ∀ j, j ≠ 0 → I0 188 j = I 188 j) (hK : hs_Km I Y.2.2)
    (hI2 : ∀ b, ¬ b = 204 → I2 b = hn_u I0 205 m 1 b) (h204 : I2 204 = va_cpy (hn_u I0 205 m 1 204) (hn_u I0 205 m 1 204) (47 * (1 + m)) 0 47) : hs_km I J R ((q.1, 0, Y.1.2.2), q.2, Y.2.2) (hn_u I2 188 24 0, J, R) := by
  have a0 : hn_u I0 205 m 1 204 = I 204 := by rw [hn_u_ne _ _ _ (by omega), e0 204 (by omega)]
  rw [a0] at h204
  have hKm := hK m hm
  rw [hq] at hKm
  have b4 : hn_u I2 188 24 0 204 = I2 204 := hn_u_ne _ _ _ (by omega)
  have b5 : hn_u I2 188 24 0 205 = I 205 := by
    rw [hn_u_ne _ _ _ (by omega), hI2 205 (by omega), hn_u_eq, e0 205 (by omega)]
    funext i
    unfold va_up
    by_cases e : i = m
    · rw [if_pos e, e]; exact hKm.1.symm
    · rw [if_neg e]
  have off : ∀ j, 47 ≤ j → hn_u I2 188 24 0 204 j = I 204 j := fun j hj => by rw [b4, h204, cp_off (by omega)]
  have on : ∀ j, j < 47 → hn_u I2 188 24 0 204 (0 + j) = I 204 (47 * (1 + m) + j) := fun j hj => by rw [b4, h204, cp_at hj]
  refine ⟨rfl, rfl, fun b hb => ?_, fun j h1 h2 => ?_, fun j hj => off j (by omega), ?_, hs_Qm_fr hKm.2.1 (by omega) (fun j hj => on j (by omega)), hs_Vm_fr hKm.2.2 (fun j _ h2 => on j h2), hs_Km_fr hK b5 (fun j h1 h2 => off j h1)⟩
  · show hn_u I2 188 24 0 b = I b
    rw [hn_u_ne _ _ _ (by omega), hI2 b (by omega), hn_u_ne _ _ _ (by omega), e0 b (by omega)]
  · show hn_u I2 188 24 0 188 j = I 188 j
    rw [hn_u_eq, va_up, if_neg h2, hI2 188 (by omega), hn_u_ne _ _ _ (by omega), e188 j h1]
  · show hn_u I2 188 24 0 188 24 = nI 0
    rw [hn_u_eq, va_up, if_pos rfl]; rfl
theorem nI_471 (m : Nat) : (47 : Int32) * ((1 : Int32) + nI m) = nI (47 * (1 + m)) := by rw [nI_ml, nI_ad]; rfl
theorem q_M_mark {Y : sp_Y} {x b : Int32} (hB : hs_B I R N Y.1.1) (hp : I 188 24 = nI Y.1.2.1) (hV : hs_Vm I 0 Y.2.1) (hK : hs_Km I Y.2.2) (hb : b = 0 ∨ b = 1) : hn_F 2 hm_M_mark [.ref 188, .int x, .int b] (I, J, R) (fun r D' => hs_km I J R (u_mark Y x b).1 D' ∧ r = some (.int (u_mark Y x b).2)) := by
  have hQ9 := hB.2.2.1
  have k205 : hn_kind 205 = (3, 4) := rfl
  refine hn_F_of _ hk_M_mark rfl (Nat.le_of_ble_eq_true rfl) ?_
  have t3 : (3 : Int32).toInt = 3 := rfl
  by_cases hx : sp_in x 4
  · have hx8 : (0 : Int32).toInt ≤ x.toInt ∧ x.toInt ≤ (3 : Int32).toInt := ⟨by rw [hi_t0]; exact hx.1, by rw [t3]; have := hx.2; omega⟩
    obtain ⟨m, hm, rfl⟩ := sp_in_nat hx
    have hcm := nI_clamp (n := m) (by omega)
    have hK9 := hK m hm
    rcases hb with rfl | rfl
    · rw [u_mark, if_pos hx, if_pos rfl, hcm]
      refine b_aload_n rfl rfl ?_
      refine b_iconst rfl ?_
      refine b_putI rfl (by first | rfl | assumption) rfl rfl ⟨rfl, rfl⟩ ?_
      have hB1 := hs_B_0 (v := 0) hB
      have hs0 : hs_sm I J R (hn_u I 188 0 0, J, R) := hs_sm_0
      obtain ⟨I0, h0⟩ : ∃ z, z = hn_u I 188 0 0 := ⟨_, rfl⟩
      rw [← h0] at hB1 hs0 ⊢
      have e0 : ∀ b, b ≠ 188 → I0 b = I b := fun b hb => by rw [h0, hn_u_ne _ _ _ hb]
      have e188 : ∀ j, j ≠ 0 → I0 188 j = I 188 j := fun j hj => by rw [h0, hn_u_eq, va_up, if_neg hj]
      have hB2 := hB1
      obtain ⟨hR, hN, hQ, hfm, hw, hAw⟩ := hB1
      have hM := hs_M_of hR
      have hN0 := hN
      have hQ0 := hQ
      have hw0 := hw
      obtain ⟨⟨hn, n8, hnp, n4, hkn⟩, hL⟩ := hN
      obtain ⟨⟨_, hVs, hVw, hVp, hVh⟩, hVt⟩ := hQ
      simp only [Nat.zero_add] at hVs hVw hVp hVh
      obtain ⟨m1, m4, m5, m6, m9, m10, m11, m12, m14, m15, m16, m17, m20, m21, m22, m23, m25, m27, m28, m29, m30, m31, m32⟩ := id hM
      refine b_iload_n rfl rfl ?_
      refine b_iconst rfl ?_
      refine b_iconst rfl ?_
      refine b_callS rfl rfl hk_M_within rfl rfl rfl (Nat.le_of_ble_eq_true rfl) (q_M_within) (Nat.le_of_ble_eq_true rfl) (fun r_8 D_8 q_8 => ?_)
      obtain ⟨rfl, hq⟩ := q_8
      rw [if_pos hx8] at hq
      subst hq
      refine b_if_eq rfl (fun c_11 => ?_) (fun c_11 => ?_)
      · exact absurd c_11 (by decide)
      · refine b_iload_n rfl rfl ?_
        refine b_if_eq rfl (fun c_15 => ?_) (fun c_15 => ?_)
        · refine b_aload_n rfl rfl ?_
          refine b_getR rfl (by first | rfl | assumption) rfl (by assumption) ?_
          refine b_iload_n rfl rfl ?_
          refine b_iconst rfl ?_
          refine b_bastore rfl (by first | rfl | assumption) (by first | assumption | exact nI_toInt (by omega) | exact hi_l0 | exact hi_l1 | exact hi_l2 | exact hi_l3 | exact hi_l4 | exact hi_l5 | exact hi_l6) (by omega) rfl ?_
          refine b_aload_n rfl rfl ?_
          refine b_iload_n rfl rfl ?_
          refine b_if_eq rfl (fun c_38 => ?_) (fun c_38 => ?_)
          · refine b_iconst rfl ?_
            refine b_iload_n rfl rfl ?_
            refine b_if_eq rfl (fun c_52 => ?_) (fun c_52 => ?_)
            · refine b_bipush rfl ?_
              refine b_iconst rfl ?_
              refine b_iload_n rfl rfl ?_
              refine b_iadd rfl ?_
              refine b_imul rfl ?_
              rw [nI_471]
              refine b_bipush rfl ?_
              refine b_callV rfl rfl hk_M_copies rfl rfl rfl (by first | rfl | assumption) rfl (Nat.le_of_ble_eq_true rfl) (q_M_copies (f := 0) (t := 47 * (1 + m)) (m := 47) hM (by omega) (by omega) (by omega) rfl rfl rfl) (Nat.le_of_ble_eq_true rfl) (fun r_67 D_67 q_67 => ?_)
              obtain ⟨rfl, hf, h204⟩ := q_67
              obtain ⟨I2, rfl, hI2⟩ := hf.out
              replace h204 : I2 204 = va_cpy (hn_u I0 205 m 1 204) (hn_u I0 205 m 1 204) 0 (47 * (1 + m)) 47 := h204
              refine b_aload_n rfl rfl ?_
              refine b_iload_n rfl rfl ?_
              refine b_if_eq rfl (fun c_72 => ?_) (fun c_72 => ?_)
              · refine b_aload_n rfl rfl ?_
                refine b_getI rfl (by first | rfl | assumption) rfl ?_
                refine b_putI rfl (by first | rfl | assumption) rfl rfl ⟨rfl, rfl⟩ ?_
                refine b_iconst rfl ?_
                exact b_ireturn rfl (by first | exact Or.inl rfl | exact Or.inr rfl | exact trivial) (⟨km_lay hm e0 e188 hQ9 hV hK hI2 h204 (by rw [hI2 188 (by omega), hn_u_ne _ _ _ (by omega), e188 24 (by omega), hp]), rfl⟩)
              · exact absurd rfl c_72
            · exact absurd rfl c_52
          · exact absurd rfl c_38
        · exact absurd rfl c_15
    · rw [u_mark, if_pos hx, if_neg (by decide), hcm]
      cases hc : Y.2.2 m with
      | none =>
        rw [hc] at hK9
        refine b_aload_n rfl rfl ?_
        refine b_iconst rfl ?_
        refine b_putI rfl (by first | rfl | assumption) rfl rfl ⟨rfl, rfl⟩ ?_
        have hB1 := hs_B_0 (v := 0) hB
        have hs0 : hs_sm I J R (hn_u I 188 0 0, J, R) := hs_sm_0
        obtain ⟨I0, h0⟩ : ∃ z, z = hn_u I 188 0 0 := ⟨_, rfl⟩
        rw [← h0] at hB1 hs0 ⊢
        have e0 : ∀ b, b ≠ 188 → I0 b = I b := fun b hb => by rw [h0, hn_u_ne _ _ _ hb]
        have e188 : ∀ j, j ≠ 0 → I0 188 j = I 188 j := fun j hj => by rw [h0, hn_u_eq, va_up, if_neg hj]
        have hB2 := hB1
        obtain ⟨hR, hN, hQ, hfm, hw, hAw⟩ := hB1
        have hM := hs_M_of hR
        have hN0 := hN
        have hQ0 := hQ
        have hw0 := hw
        obtain ⟨⟨hn, n8, hnp, n4, hkn⟩, hL⟩ := hN
        obtain ⟨⟨_, hVs, hVw, hVp, hVh⟩, hVt⟩ := hQ
        simp only [Nat.zero_add] at hVs hVw hVp hVh
        obtain ⟨m1, m4, m5, m6, m9, m10, m11, m12, m14, m15, m16, m17, m20, m21, m22, m23, m25, m27, m28, m29, m30, m31, m32⟩ := id hM
        refine b_iload_n rfl rfl ?_
        refine b_iconst rfl ?_
        refine b_iconst rfl ?_
        refine b_callS rfl rfl hk_M_within rfl rfl rfl (Nat.le_of_ble_eq_true rfl) (q_M_within) (Nat.le_of_ble_eq_true rfl) (fun r_8 D_8 q_8 => ?_)
        obtain ⟨rfl, hq⟩ := q_8
        rw [if_pos hx8] at hq
        subst hq
        refine b_if_eq rfl (fun c_11 => ?_) (fun c_11 => ?_)
        · exact absurd c_11 (by decide)
        · refine b_iload_n rfl rfl ?_
          refine b_if_eq rfl (fun c_15 => ?_) (fun c_15 => ?_)
          · exact absurd c_15 (by decide)
          · refine b_aload_n rfl rfl ?_
            refine b_getR rfl (by first | rfl | assumption) rfl (by assumption) ?_
            refine b_iload_n rfl rfl ?_
            refine b_baload rfl (by first | rfl | assumption) (by first | assumption | exact nI_toInt (by omega) | exact hi_l0 | exact hi_l1 | exact hi_l2 | exact hi_l3 | exact hi_l4 | exact hi_l5 | exact hi_l6) (by omega) ?_
            rw [e0 205 (by omega), hK9]
            refine b_if_ne rfl (fun c_24 => ?_) (fun c_24 => ?_)
            · exact absurd rfl c_24
            · refine b_iconst rfl ?_
              exact b_ireturn rfl (by first | exact Or.inl rfl | exact Or.inr rfl | exact trivial) (⟨hs_km_r e0 e188 hQ9 hp hV hK, rfl⟩)
      | some q =>
        rw [hc] at hK9
        refine b_aload_n rfl rfl ?_
        refine b_iconst rfl ?_
        refine b_putI rfl (by first | rfl | assumption) rfl rfl ⟨rfl, rfl⟩ ?_
        have hB1 := hs_B_0 (v := 0) hB
        have hs0 : hs_sm I J R (hn_u I 188 0 0, J, R) := hs_sm_0
        obtain ⟨I0, h0⟩ : ∃ z, z = hn_u I 188 0 0 := ⟨_, rfl⟩
        rw [← h0] at hB1 hs0 ⊢
        have e0 : ∀ b, b ≠ 188 → I0 b = I b := fun b hb => by rw [h0, hn_u_ne _ _ _ hb]
        have e188 : ∀ j, j ≠ 0 → I0 188 j = I 188 j := fun j hj => by rw [h0, hn_u_eq, va_up, if_neg hj]
        have hB2 := hB1
        obtain ⟨hR, hN, hQ, hfm, hw, hAw⟩ := hB1
        have hM := hs_M_of hR
        have hN0 := hN
        have hQ0 := hQ
        have hw0 := hw
        obtain ⟨⟨hn, n8, hnp, n4, hkn⟩, hL⟩ := hN
        obtain ⟨⟨_, hVs, hVw, hVp, hVh⟩, hVt⟩ := hQ
        simp only [Nat.zero_add] at hVs hVw hVp hVh
        obtain ⟨m1, m4, m5, m6, m9, m10, m11, m12, m14, m15, m16, m17, m20, m21, m22, m23, m25, m27, m28, m29, m30, m31, m32⟩ := id hM
        refine b_iload_n rfl rfl ?_
        refine b_iconst rfl ?_
        refine b_iconst rfl ?_
        refine b_callS rfl rfl hk_M_within rfl rfl rfl (Nat.le_of_ble_eq_true rfl) (q_M_within) (Nat.le_of_ble_eq_true rfl) (fun r_8 D_8 q_8 => ?_)
        obtain ⟨rfl, hq⟩ := q_8
        rw [if_pos hx8] at hq
        subst hq
        refine b_if_eq rfl (fun c_11 => ?_) (fun c_11 => ?_)
        · exact absurd c_11 (by decide)
        · refine b_iload_n rfl rfl ?_
          refine b_if_eq rfl (fun c_15 => ?_) (fun c_15 => ?_)
          · exact absurd c_15 (by decide)
          · refine b_aload_n rfl rfl ?_
            refine b_getR rfl (by first | rfl | assumption) rfl (by assumption) ?_
            refine b_iload_n rfl rfl ?_
            refine b_baload rfl (by first | rfl | assumption) (by first | assumption | exact nI_toInt (by omega) | exact hi_l0 | exact hi_l1 | exact hi_l2 | exact hi_l3 | exact hi_l4 | exact hi_l5 | exact hi_l6) (by omega) ?_
            rw [e0 205 (by omega), hK9.1]
            refine b_if_ne rfl (fun c_24 => ?_) (fun c_24 => ?_)
            · refine b_aload_n rfl rfl ?_
              refine b_getR rfl (by first | rfl | assumption) rfl (by assumption) ?_
              refine b_iload_n rfl rfl ?_
              refine b_iconst rfl ?_
              refine b_bastore rfl (by first | rfl | assumption) (by first | assumption | exact nI_toInt (by omega) | exact hi_l0 | exact hi_l1 | exact hi_l2 | exact hi_l3 | exact hi_l4 | exact hi_l5 | exact hi_l6) (by omega) rfl ?_
              refine b_aload_n rfl rfl ?_
              refine b_iload_n rfl rfl ?_
              refine b_if_eq rfl (fun c_38 => ?_) (fun c_38 => ?_)
              · exact absurd c_38 (by decide)
              · refine b_bipush rfl ?_
                refine b_iconst rfl ?_
                refine b_iload_n rfl rfl ?_
                refine b_iadd rfl ?_
                refine b_imul rfl ?_
                rw [nI_471]
                refine b_goto rfl ?_
                refine b_iload_n rfl rfl ?_
                refine b_if_eq rfl (fun c_52 => ?_) (fun c_52 => ?_)
                · exact absurd c_52 (by decide)
                · refine b_iconst rfl ?_
                  refine b_goto rfl ?_
                  refine b_bipush rfl ?_
                  refine b_callV rfl rfl hk_M_copies rfl rfl rfl (by first | rfl | assumption) rfl (Nat.le_of_ble_eq_true rfl) (q_M_copies (f := 47 * (1 + m)) (t := 0) (m := 47) hM (by omega) (by omega) (by omega) rfl rfl rfl) (Nat.le_of_ble_eq_true rfl) (fun r_67 D_67 q_67 => ?_)
                  obtain ⟨rfl, hf, h204⟩ := q_67
                  obtain ⟨I2, rfl, hI2⟩ := hf.out
                  replace h204 : I2 204 = va_cpy (hn_u I0 205 m 1 204) (hn_u I0 205 m 1 204) (47 * (1 + m)) 0 47 := h204
                  refine b_aload_n rfl rfl ?_
                  refine b_iload_n rfl rfl ?_
                  refine b_if_eq rfl (fun c_72 => ?_) (fun c_72 => ?_)
                  · exact absurd c_72 (by decide)
                  · refine b_iconst rfl ?_
                    refine b_goto rfl ?_
                    refine b_putI rfl (by first | rfl | assumption) rfl rfl ⟨rfl, rfl⟩ ?_
                    refine b_iconst rfl ?_
                    exact b_ireturn rfl (by first | exact Or.inl rfl | exact Or.inr rfl | exact trivial) (⟨km_back hm hc e0 e188 hK hI2 h204, rfl⟩)
            · exact absurd c_24 (by decide)
  · have hx8 : ¬ ((0 : Int32).toInt ≤ x.toInt ∧ x.toInt ≤ (3 : Int32).toInt) := fun w => hx ⟨by have := w.1; rw [hi_t0] at this; exact this, by have := w.2; rw [t3] at this; omega⟩
    rw [u_mark, if_neg hx]
    refine b_aload_n rfl rfl ?_
    refine b_iconst rfl ?_
    refine b_putI rfl (by first | rfl | assumption) rfl rfl ⟨rfl, rfl⟩ ?_
    have hB1 := hs_B_0 (v := 0) hB
    have hs0 : hs_sm I J R (hn_u I 188 0 0, J, R) := hs_sm_0
    obtain ⟨I0, h0⟩ : ∃ z, z = hn_u I 188 0 0 := ⟨_, rfl⟩
    rw [← h0] at hB1 hs0 ⊢
    have e0 : ∀ b, b ≠ 188 → I0 b = I b := fun b hb => by rw [h0, hn_u_ne _ _ _ hb]
    have e188 : ∀ j, j ≠ 0 → I0 188 j = I 188 j := fun j hj => by rw [h0, hn_u_eq, va_up, if_neg hj]
    have hB2 := hB1
    obtain ⟨hR, hN, hQ, hfm, hw, hAw⟩ := hB1
    have hM := hs_M_of hR
    have hN0 := hN
    have hQ0 := hQ
    have hw0 := hw
    obtain ⟨⟨hn, n8, hnp, n4, hkn⟩, hL⟩ := hN
    obtain ⟨⟨_, hVs, hVw, hVp, hVh⟩, hVt⟩ := hQ
    simp only [Nat.zero_add] at hVs hVw hVp hVh
    obtain ⟨m1, m4, m5, m6, m9, m10, m11, m12, m14, m15, m16, m17, m20, m21, m22, m23, m25, m27, m28, m29, m30, m31, m32⟩ := id hM
    refine b_iload_n rfl rfl ?_
    refine b_iconst rfl ?_
    refine b_iconst rfl ?_
    refine b_callS rfl rfl hk_M_within rfl rfl rfl (Nat.le_of_ble_eq_true rfl) (q_M_within) (Nat.le_of_ble_eq_true rfl) (fun r_8 D_8 q_8 => ?_)
    obtain ⟨rfl, hq⟩ := q_8
    rw [if_neg hx8] at hq
    subst hq
    refine b_if_eq rfl (fun c_11 => ?_) (fun c_11 => ?_)
    · refine b_iconst rfl ?_
      exact b_ireturn rfl (by first | exact Or.inl rfl | exact Or.inr rfl | exact trivial) (⟨hs_km_r e0 e188 hQ9 hp hV hK, rfl⟩)
    · exact absurd rfl c_11
end HNmmarks
