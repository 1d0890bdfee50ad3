section HNmhand
variable {I I' : Nat → Nat → Int32} {J J' : Nat → Nat → Int64} {R : Nat → Nat → Option Nat} {t : Nat} {N : sp_N} {Q Q' : sp_Q} {U : sp_U}
/-- what a deed by hand may change: the reference's -/
def hs_um (I : Nat → Nat → Int32) (J : Nat → Nat → Int64) (R : Nat → Nat → Option Nat) (U : sp_U) (D : hnD) : Prop := D.2.1 = J ∧ D.2.2 = R ∧ (∀ b, ¬ (b = 188 ∨ b = 202 ∨ b = 203 ∨ b = 204) → D.1 b = I b) ∧ (∀ j, j ≠ 0 → j ≠ 24 → D.1 188 j = I 188 j) ∧ (∀ j, ¬ (j < 21 ∨ (235 ≤ j ∧ j < 987)) → D.1 204 j = I 204 j) ∧ hs_Qm D.1 0 U.1 ∧ hs_pm D.1 U.2.1 U.2.2
theorem hs_pm_fr {len : Nat} {e : Nat → sp_Q} (h : hs_pm I len e) (h0 : I' 188 24 = I 188 24) (hf : ∀ j, 235 ≤ j → j < 987 → I' 204 j = I 204 j) : hs_pm I' len e := by
  obtain ⟨h1, h2, h3⟩ := h
  exact ⟨by rw [h0]; exact h1, h2, fun j hj => hs_Qm_fr (h3 j hj) (by omega) (fun i hi => hf _ (by omega) (by omega))⟩
theorem hs_pm_0 {len : Nat} {e : Nat → sp_Q} {v : Int32} (h : hs_pm I len e) : hs_pm (hn_u I 188 0 v) len e :=
  hs_pm_fr h (by rw [hn_u_eq, va_up, if_neg (by omega)]) (fun j _ _ => by rw [hn_u_ne _ _ _ (by omega)])
theorem hs_um_r {I0 : Nat → Nat → Int32} (h0 : I0 = hn_u I 188 0 0) (hQ : hs_Qm I0 0 U.1) (hp : hs_pm I0 U.2.1 U.2.2) : hs_um I J R U (I0, J, R) := by
  refine ⟨rfl, rfl, fun b hb => ?_, fun j h1 h2 => ?_, fun j hj => ?_, hQ, hp⟩
  · show I0 b = I b; rw [h0, hn_u_ne _ _ _ (by omega)]
  · show I0 188 j = _; rw [h0, hn_u_eq, va_up, if_neg h1]
  · show I0 204 j = _; rw [h0, hn_u_ne _ _ _ (by omega)]
theorem hs_um_now {I0 I1 I2 : Nat → Nat → Int32} {q : sp_Q} (h0 : I0 = hn_u I 188 0 0) (f1 : ∀ b, b ≠ 188 → b ≠ 204 → I1 b = I0 b) (f2 : ∀ j, j ≠ 24 → I1 188 j = I0 188 j) (f3 : ∀ j, ¬ (235 ≤ j ∧ j < 987) → I1 204 j = I0 204 j) (hp : hs_pm I1 (sp_pl U.2.1) (sp_pe U.1 U.2.2)) (g1 : ∀ b, ¬ (b = 202 ∨ b = 203 ∨ b = 204) → I2 b = I1 b) (g2 : ∀ j, ¬ j < 21 → I2 204 j = I1 204 j) (hQ : hs_Qm I2 0 q) : hs_um I J R (u_push U q) (I2, J, R) := by
  refine ⟨rfl, rfl, fun b hb => ?_, fun j h1 h2 => ?_, fun j hj => ?_, hQ, hs_pm_fr hp (congrFun (g1 188 (by omega)) 24) (fun j h1 h2 => g2 j (by omega))⟩
  · show I2 b = I b; rw [g1 b (by omega), f1 b (by omega) (by omega), h0, hn_u_ne _ _ _ (by omega)]
  · show I2 188 j = _; rw [g1 188 (by omega), f2 j h2, h0, hn_u_eq, va_up, if_neg h1]
  · show I2 204 j = _; rw [g2 j (by omega), f3 j (by omega), h0, hn_u_ne _ _ _ (by omega)]
theorem hs_B_kp {I1 : Nat → Nat → Int32} (hB : hs_B I R N Q) (f1 : ∀ b, b ≠ 188 → b ≠ 204 → I1 b = I b) (f2 : ∀ j, j ≠ 24 → I1 188 j = I 188 j) (f3 : ∀ j, ¬ (235 ≤ j ∧ j < 987) → I1 204 j = I 204 j) : hs_B I1 R N Q := by
  obtain ⟨hR, hN, hQ, hfm, hw, hAw⟩ := hB
  refine ⟨hR, ?_, hs_Qm_fr hQ (by omega) (fun j hj => f3 _ (by omega)), by rw [f2 26 (by omega)]; exact hfm, hw, hAw⟩
  unfold hs_Nm hs_MN hs_ML
  rw [f1 194 (by omega) (by omega), f1 195 (by omega) (by omega), f1 196 (by omega) (by omega)]
  exact hN
theorem hs_put_m {I1 : Nat → Nat → Int32} {p : Nat} {v : Int32} (hp : p < 4) (h : hs_Qm I1 0 Q) : hs_Qm (hn_u I1 204 (13 + p) v) 0 (sp_put Q p v) := by
  obtain ⟨⟨h0, h1, h2, h3, h4⟩, h5⟩ := h
  simp only [Nat.zero_add] at h1 h2 h3 h4
  refine ⟨⟨h0, fun k hk => ?_, fun k hk => ?_, fun k hk => ?_, fun k hk => ?_⟩, ?_⟩
  · rw [hn_u_eq, va_up, if_neg (by omega), Nat.zero_add]; exact h1 k hk
  · rw [hn_u_eq, va_up, if_neg (by omega), Nat.zero_add]; exact h2 k hk
  · rw [hn_u_eq, Nat.zero_add]
    show va_up (I1 204) (13 + p) v (13 + k) = va_up (qP Q) p v k
    unfold va_up
    by_cases e : k = p
    · rw [if_pos (by omega), if_pos e]
    · rw [if_neg (by omega), if_neg e]; exact h3 k hk
  · rw [hn_u_eq, va_up, if_neg (by omega), Nat.zero_add]; exact h4 k hk
  · rw [hn_u_eq, va_up, if_neg (by omega)]; exact h5
theorem hs_tie_m {I1 : Nat → Nat → Int32} {k o : Nat} {v : Int32} (hk : k < 8) (h : hs_Qm I1 0 Q) (hv : v = qS Q k ^^^ ((1 : Int32) <<< (nI o &&& 31))) : hs_Qm (hn_u I1 204 (1 + k) v) 0 (sp_tie Q k o) := by
  obtain ⟨⟨h0, h1, h2, h3, h4⟩, h5⟩ := h
  simp only [Nat.zero_add] at h1 h2 h3 h4
  refine ⟨⟨h0, fun q hq => ?_, fun q hq => ?_, fun q hq => ?_, fun q hq => ?_⟩, ?_⟩
  · rw [hn_u_eq, Nat.zero_add]
    show va_up (I1 204) (1 + k) v (1 + q) = va_up (qS Q) k _ q
    unfold va_up
    by_cases e : q = k
    · rw [if_pos (by omega), if_pos e]; exact hv
    · rw [if_neg (by omega), if_neg e]; exact h1 q hq
  · rw [hn_u_eq, va_up, if_neg (by omega), Nat.zero_add]; exact h2 q hq
  · rw [hn_u_eq, va_up, if_neg (by omega), Nat.zero_add]; exact h3 q hq
  · rw [hn_u_eq, va_up, if_neg (by omega), Nat.zero_add]; exact h4 q hq
  · rw [hn_u_eq, va_up, if_neg (by omega)]; exact h5
theorem q_M_hour (hB : hs_B I R N U.1) (hp : hs_pm I U.2.1 U.2.2) : hn_F 5 hm_M_hour [.ref 188] (I, J, R) (fun r D' => hs_um I J R (u_hour N U).1 D' ∧ r = some (.int (u_hour N U).2)) := by
  refine hn_F_of _ hk_M_hour rfl (Nat.le_of_ble_eq_true rfl) ?_
  refine b_aload_n rfl rfl ?_
  refine b_iconst rfl ?_
  refine b_putI rfl (by first | rfl | assumption) rfl rfl ⟨rfl, rfl⟩ ?_
  have hB1 := hs_B_0 (v := 0) hB
  have hp0 := hs_pm_0 (v := 0) hp
  obtain ⟨I0, h0⟩ : ∃ z, z = hn_u I 188 0 0 := ⟨_, rfl⟩
  rw [← h0] at hB1 hp0 ⊢
  have hB2 := hB1
  obtain ⟨hR, hN, hQ, hfm, hw, hAw⟩ := hB1
  have hM := hs_M_of hR
  have hN0 := hN
  have hQ0 := hQ
  have hw0 := hw
  obtain ⟨⟨hn, n8, hnp, n4, hkn⟩, hL⟩ := hN
  obtain ⟨⟨_, hVs, hVw, hVp, hVh⟩, hVt⟩ := hQ
  simp only [Nat.zero_add] at hVs hVw hVp hVh
  obtain ⟨m1, m4, m5, m6, m9, m10, m11, m12, m14, m15, m16, m17, m20, m21, m22, m23, m25, m27, m28, m29, m30, m31, m32⟩ := id hM
  refine b_aload_n rfl rfl ?_
  refine b_callV rfl rfl hk_M_keeps rfl rfl rfl (by first | rfl | assumption) rfl (Nat.le_of_ble_eq_true rfl) (q_M_keeps hM hQ0 hp0) (Nat.le_of_ble_eq_true rfl) (fun r_6 D_6 q_6 => ?_)
  obtain ⟨rfl, I1, rfl, f1, f2, f3, p1⟩ := q_6
  have hB3 := hs_B_kp hB2 f1 f2 f3
  refine b_aload_n rfl rfl ?_
  refine b_iconst rfl ?_
  refine b_iconst rfl ?_
  refine b_callV rfl rfl hk_M_passes rfl rfl rfl (by first | rfl | assumption) rfl (Nat.le_of_ble_eq_true rfl) (qm_hour (odd := -1) hM hB3.2.1 hB3.2.2.1 hB3.2.2.2.1 hw0.1 hw0.2.2.2.1 rfl) (Nat.le_of_ble_eq_true rfl) (fun r_12 D_12 q_12 => ?_)
  obtain ⟨hf, g1, g2, rfl⟩ := q_12
  obtain ⟨I2, rfl, hI2⟩ := hf.out
  exact b_ireturn rfl trivial (⟨hs_um_now h0 f1 f2 f3 p1 hI2 (fun j hj => g1 j (by omega)) g2, rfl⟩)
theorem q_M_shift {x y : Int32} (hB : hs_B I R N U.1) (hp : hs_pm I U.2.1 U.2.2) : hn_F 4 hm_M_shift [.ref 188, .int x, .int y] (I, J, R) (fun r D' => hs_um I J R (u_shift N U x y).1 D' ∧ r = some (.int (u_shift N U x y).2)) := by
  have n8' : N.1 ≤ 8 := hB.2.1.1.2.1
  have n4' : N.2.1 ≤ 4 := hB.2.1.1.2.2.2.1
  refine hn_F_of _ hk_M_shift rfl (Nat.le_of_ble_eq_true rfl) ?_
  by_cases hx : sp_in x N.2.1
  · by_cases hy : sp_in y N.1
    · obtain ⟨p, hpp, rfl⟩ := sp_in_nat hx
      obtain ⟨k, hk, rfl⟩ := sp_in_nat hy
      rw [u_shift, nI_clamp (by omega), nI_clamp (by omega)]
      by_cases hcan : sp_can U p k
      · rw [if_pos ⟨hx, hy, hcan⟩]
        have hne : ¬ qP U.1 p = nI k := by
          intro e
          have hb := hcan.2
          rw [e, nI_clamp (by omega)] at hb
          exact hB.2.2.2.2.1.2.2.2.1 k (by omega) hb
        refine b_aload_n rfl rfl ?_
        refine b_iconst rfl ?_
        refine b_putI rfl (by first | rfl | assumption) rfl rfl ⟨rfl, rfl⟩ ?_
        have hB1 := hs_B_0 (v := 0) hB
        have hp0 := hs_pm_0 (v := 0) hp
        obtain ⟨I0, h0⟩ : ∃ z, z = hn_u I 188 0 0 := ⟨_, rfl⟩
        rw [← h0] at hB1 hp0 ⊢
        have hB2 := hB1
        obtain ⟨hR, hN, hQ, hfm, hw, hAw⟩ := hB1
        have hM := hs_M_of hR
        have hN0 := hN
        have hQ0 := hQ
        have hw0 := hw
        obtain ⟨⟨hn, n8, hnp, n4, hkn⟩, hL⟩ := hN
        obtain ⟨⟨_, hVs, hVw, hVp, hVh⟩, hVt⟩ := hQ
        simp only [Nat.zero_add] at hVs hVw hVp hVh
        obtain ⟨m1, m4, m5, m6, m9, m10, m11, m12, m14, m15, m16, m17, m20, m21, m22, m23, m25, m27, m28, m29, m30, m31, m32⟩ := id hM
        refine b_aload_n rfl rfl ?_
        refine b_iload_n rfl rfl ?_
        refine b_callV rfl rfl hk_M_isPerson rfl rfl rfl (by first | rfl | assumption) rfl (Nat.le_of_ble_eq_true rfl) (q_M_isPerson hM hnp n4) (Nat.le_of_ble_eq_true rfl) (fun r_7 D_7 q_7 => ?_)
        obtain ⟨rfl, hq⟩ := q_7
        rw [if_pos hx] at hq
        subst hq
        refine b_if_eq rfl (fun c_10 => ?_) (fun c_10 => ?_)
        · exact absurd c_10 (by decide)
        · refine b_aload_n rfl rfl ?_
          refine b_iload_n rfl rfl ?_
          refine b_callV rfl rfl hk_M_isKnot rfl rfl rfl (by first | rfl | assumption) rfl (Nat.le_of_ble_eq_true rfl) (q_M_isKnot hM hn n8) (Nat.le_of_ble_eq_true rfl) (fun r_15 D_15 q_15 => ?_)
          obtain ⟨rfl, hq⟩ := q_15
          rw [if_pos hy] at hq
          subst hq
          refine b_if_eq rfl (fun c_18 => ?_) (fun c_18 => ?_)
          · exact absurd c_18 (by decide)
          · refine b_aload_n rfl rfl ?_
            refine b_iconst rfl ?_
            refine b_iload_n rfl rfl ?_
            refine b_iload_n rfl rfl ?_
            refine b_callV rfl rfl hk_M_mayShift rfl rfl rfl (by first | rfl | assumption) rfl (Nat.le_of_ble_eq_true rfl) (q_M_mayShift hM hQ0.1 n8 hw0.1 (show p < 4 by omega) rfl) (Nat.le_of_ble_eq_true rfl) (fun r_25 D_25 q_25 => ?_)
            obtain ⟨rfl, hq⟩ := q_25
            rw [if_pos hcan] at hq
            subst hq
            refine b_if_ne rfl (fun c_28 => ?_) (fun c_28 => ?_)
            · refine b_aload_n rfl rfl ?_
              refine b_callV rfl rfl hk_M_keeps rfl rfl rfl (by first | rfl | assumption) rfl (Nat.le_of_ble_eq_true rfl) (q_M_keeps hM hQ0 hp0) (Nat.le_of_ble_eq_true rfl) (fun r_34 D_34 q_34 => ?_)
              obtain ⟨rfl, I1, rfl, f1, f2, f3, p1⟩ := q_34
              have hB3 := hs_B_kp hB2 f1 f2 f3
              refine b_aload_n rfl rfl ?_
              refine b_iconst rfl ?_
              refine b_iload_n rfl rfl ?_
              refine b_iload_n rfl rfl ?_
              refine b_callV rfl rfl hk_M_shifts rfl rfl rfl (by first | rfl | assumption) rfl (Nat.le_of_ble_eq_true rfl) (qm_go hM hB3.2.1 hB3.2.2.1 hB3.2.2.2.1 (show p < 4 by omega) hk hne rfl) (Nat.le_of_ble_eq_true rfl) (fun r_41 D_41 q_41 => ?_)
              obtain ⟨hf, g1, g2, rfl⟩ := q_41
              obtain ⟨I2, rfl, hI2⟩ := hf.out
              refine b_pop rfl rfl ?_
              refine b_aload_n rfl rfl ?_
              refine b_getR rfl (by first | rfl | assumption) rfl (by assumption) ?_
              refine b_bipush rfl ?_
              refine b_iload_n rfl rfl ?_
              refine b_iadd rfl ?_
              refine b_iaload rfl (by first | rfl | assumption) (hi_ix (9 + p) (by rw [nI_ad]; rfl) (by omega)) (by omega) ?_
              rw [show I2 204 (9 + p) = qW (sp_sh N 0 U.1 p k) p by have := g2.1.2.2.1 p (by omega); rw [Nat.zero_add] at this; exact this]
              exact b_ireturn rfl trivial (⟨hs_um_now h0 f1 f2 f3 p1 hI2 (fun j hj => g1 j (by omega)) g2, rfl⟩)
            · exact absurd c_28 (by decide)
      · rw [if_neg (fun z => hcan z.2.2)]
        refine b_aload_n rfl rfl ?_
        refine b_iconst rfl ?_
        refine b_putI rfl (by first | rfl | assumption) rfl rfl ⟨rfl, rfl⟩ ?_
        have hB1 := hs_B_0 (v := 0) hB
        have hp0 := hs_pm_0 (v := 0) hp
        obtain ⟨I0, h0⟩ : ∃ z, z = hn_u I 188 0 0 := ⟨_, rfl⟩
        rw [← h0] at hB1 hp0 ⊢
        have hB2 := hB1
        obtain ⟨hR, hN, hQ, hfm, hw, hAw⟩ := hB1
        have hM := hs_M_of hR
        have hN0 := hN
        have hQ0 := hQ
        have hw0 := hw
        obtain ⟨⟨hn, n8, hnp, n4, hkn⟩, hL⟩ := hN
        obtain ⟨⟨_, hVs, hVw, hVp, hVh⟩, hVt⟩ := hQ
        simp only [Nat.zero_add] at hVs hVw hVp hVh
        obtain ⟨m1, m4, m5, m6, m9, m10, m11, m12, m14, m15, m16, m17, m20, m21, m22, m23, m25, m27, m28, m29, m30, m31, m32⟩ := id hM
        refine b_aload_n rfl rfl ?_
        refine b_iload_n rfl rfl ?_
        refine b_callV rfl rfl hk_M_isPerson rfl rfl rfl (by first | rfl | assumption) rfl (Nat.le_of_ble_eq_true rfl) (q_M_isPerson hM hnp n4) (Nat.le_of_ble_eq_true rfl) (fun r_7 D_7 q_7 => ?_)
        obtain ⟨rfl, hq⟩ := q_7
        rw [if_pos hx] at hq
        subst hq
        refine b_if_eq rfl (fun c_10 => ?_) (fun c_10 => ?_)
        · exact absurd c_10 (by decide)
        · refine b_aload_n rfl rfl ?_
          refine b_iload_n rfl rfl ?_
          refine b_callV rfl rfl hk_M_isKnot rfl rfl rfl (by first | rfl | assumption) rfl (Nat.le_of_ble_eq_true rfl) (q_M_isKnot hM hn n8) (Nat.le_of_ble_eq_true rfl) (fun r_15 D_15 q_15 => ?_)
          obtain ⟨rfl, hq⟩ := q_15
          rw [if_pos hy] at hq
          subst hq
          refine b_if_eq rfl (fun c_18 => ?_) (fun c_18 => ?_)
          · exact absurd c_18 (by decide)
          · refine b_aload_n rfl rfl ?_
            refine b_iconst rfl ?_
            refine b_iload_n rfl rfl ?_
            refine b_iload_n rfl rfl ?_
            refine b_callV rfl rfl hk_M_mayShift rfl rfl rfl (by first | rfl | assumption) rfl (Nat.le_of_ble_eq_true rfl) (q_M_mayShift hM hQ0.1 n8 hw0.1 (show p < 4 by omega) rfl) (Nat.le_of_ble_eq_true rfl) (fun r_25 D_25 q_25 => ?_)
            obtain ⟨rfl, hq⟩ := q_25
            rw [if_neg hcan] at hq
            subst hq
            refine b_if_ne rfl (fun c_28 => ?_) (fun c_28 => ?_)
            · exact absurd rfl c_28
            · refine b_iconst rfl ?_
              exact b_ireturn rfl trivial (⟨hs_um_r h0 hQ0 hp0, rfl⟩)
    · rw [u_shift, if_neg (fun z => hy z.2.1)]
      refine b_aload_n rfl rfl ?_
      refine b_iconst rfl ?_
      refine b_putI rfl (by first | rfl | assumption) rfl rfl ⟨rfl, rfl⟩ ?_
      have hB1 := hs_B_0 (v := 0) hB
      have hp0 := hs_pm_0 (v := 0) hp
      obtain ⟨I0, h0⟩ : ∃ z, z = hn_u I 188 0 0 := ⟨_, rfl⟩
      rw [← h0] at hB1 hp0 ⊢
      have hB2 := hB1
      obtain ⟨hR, hN, hQ, hfm, hw, hAw⟩ := hB1
      have hM := hs_M_of hR
      have hN0 := hN
      have hQ0 := hQ
      have hw0 := hw
      obtain ⟨⟨hn, n8, hnp, n4, hkn⟩, hL⟩ := hN
      obtain ⟨⟨_, hVs, hVw, hVp, hVh⟩, hVt⟩ := hQ
      simp only [Nat.zero_add] at hVs hVw hVp hVh
      obtain ⟨m1, m4, m5, m6, m9, m10, m11, m12, m14, m15, m16, m17, m20, m21, m22, m23, m25, m27, m28, m29, m30, m31, m32⟩ := id hM
      refine b_aload_n rfl rfl ?_
      refine b_iload_n rfl rfl ?_
      refine b_callV rfl rfl hk_M_isPerson rfl rfl rfl (by first | rfl | assumption) rfl (Nat.le_of_ble_eq_true rfl) (q_M_isPerson hM hnp n4) (Nat.le_of_ble_eq_true rfl) (fun r_7 D_7 q_7 => ?_)
      obtain ⟨rfl, hq⟩ := q_7
      rw [if_pos hx] at hq
      subst hq
      refine b_if_eq rfl (fun c_10 => ?_) (fun c_10 => ?_)
      · exact absurd c_10 (by decide)
      · refine b_aload_n rfl rfl ?_
        refine b_iload_n rfl rfl ?_
        refine b_callV rfl rfl hk_M_isKnot rfl rfl rfl (by first | rfl | assumption) rfl (Nat.le_of_ble_eq_true rfl) (q_M_isKnot hM hn n8) (Nat.le_of_ble_eq_true rfl) (fun r_15 D_15 q_15 => ?_)
        obtain ⟨rfl, hq⟩ := q_15
        rw [if_neg hy] at hq
        subst hq
        refine b_if_eq rfl (fun c_18 => ?_) (fun c_18 => ?_)
        · refine b_iconst rfl ?_
          exact b_ireturn rfl trivial (⟨hs_um_r h0 hQ0 hp0, rfl⟩)
        · exact absurd rfl c_18
  · rw [u_shift, if_neg (fun z => hx z.1)]
    refine b_aload_n rfl rfl ?_
    refine b_iconst rfl ?_
    refine b_putI rfl (by first | rfl | assumption) rfl rfl ⟨rfl, rfl⟩ ?_
    have hB1 := hs_B_0 (v := 0) hB
    have hp0 := hs_pm_0 (v := 0) hp
    obtain ⟨I0, h0⟩ : ∃ z, z = hn_u I 188 0 0 := ⟨_, rfl⟩
    rw [← h0] at hB1 hp0 ⊢
    have hB2 := hB1
    obtain ⟨hR, hN, hQ, hfm, hw, hAw⟩ := hB1
    have hM := hs_M_of hR
    have hN0 := hN
    have hQ0 := hQ
    have hw0 := hw
    obtain ⟨⟨hn, n8, hnp, n4, hkn⟩, hL⟩ := hN
    obtain ⟨⟨_, hVs, hVw, hVp, hVh⟩, hVt⟩ := hQ
    simp only [Nat.zero_add] at hVs hVw hVp hVh
    obtain ⟨m1, m4, m5, m6, m9, m10, m11, m12, m14, m15, m16, m17, m20, m21, m22, m23, m25, m27, m28, m29, m30, m31, m32⟩ := id hM
    refine b_aload_n rfl rfl ?_
    refine b_iload_n rfl rfl ?_
    refine b_callV rfl rfl hk_M_isPerson rfl rfl rfl (by first | rfl | assumption) rfl (Nat.le_of_ble_eq_true rfl) (q_M_isPerson hM hnp n4) (Nat.le_of_ble_eq_true rfl) (fun r_7 D_7 q_7 => ?_)
    obtain ⟨rfl, hq⟩ := q_7
    rw [if_neg hx] at hq
    subst hq
    refine b_if_eq rfl (fun c_10 => ?_) (fun c_10 => ?_)
    · refine b_iconst rfl ?_
      exact b_ireturn rfl trivial (⟨hs_um_r h0 hQ0 hp0, rfl⟩)
    · exact absurd rfl c_10
theorem q_M_rouse {x : Int32} (hB : hs_B I R N U.1) (hp : hs_pm I U.2.1 U.2.2) : hn_F 2 hm_M_rouse [.ref 188, .int x] (I, J, R) (fun r D' => hs_um I J R (u_rouse N U x).1 D' ∧ r = some (.int (u_rouse N U x).2)) := by
  have n8' : N.1 ≤ 8 := hB.2.1.1.2.1
  have n4' : N.2.1 ≤ 4 := hB.2.1.1.2.2.2.1
  refine hn_F_of _ hk_M_rouse rfl (Nat.le_of_ble_eq_true rfl) ?_
  by_cases hx : sp_in x N.2.1
  · obtain ⟨p, hpp, rfl⟩ := sp_in_nat hx
    rw [u_rouse, nI_clamp (by omega)]
    by_cases hl : qP U.1 p = -1
    · rw [if_neg (fun z => z.2 hl)]
      refine b_aload_n rfl rfl ?_
      refine b_iconst rfl ?_
      refine b_putI rfl (by first | rfl | assumption) rfl rfl ⟨rfl, rfl⟩ ?_
      have hB1 := hs_B_0 (v := 0) hB
      have hp0 := hs_pm_0 (v := 0) hp
      obtain ⟨I0, h0⟩ : ∃ z, z = hn_u I 188 0 0 := ⟨_, rfl⟩
      rw [← h0] at hB1 hp0 ⊢
      have hB2 := hB1
      obtain ⟨hR, hN, hQ, hfm, hw, hAw⟩ := hB1
      have hM := hs_M_of hR
      have hN0 := hN
      have hQ0 := hQ
      have hw0 := hw
      obtain ⟨⟨hn, n8, hnp, n4, hkn⟩, hL⟩ := hN
      obtain ⟨⟨_, hVs, hVw, hVp, hVh⟩, hVt⟩ := hQ
      simp only [Nat.zero_add] at hVs hVw hVp hVh
      obtain ⟨m1, m4, m5, m6, m9, m10, m11, m12, m14, m15, m16, m17, m20, m21, m22, m23, m25, m27, m28, m29, m30, m31, m32⟩ := id hM
      refine b_aload_n rfl rfl ?_
      refine b_iload_n rfl rfl ?_
      refine b_callV rfl rfl hk_M_isPerson rfl rfl rfl (by first | rfl | assumption) rfl (Nat.le_of_ble_eq_true rfl) (q_M_isPerson hM hnp n4) (Nat.le_of_ble_eq_true rfl) (fun r_7 D_7 q_7 => ?_)
      obtain ⟨rfl, hq⟩ := q_7
      rw [if_pos hx] at hq
      subst hq
      refine b_if_eq rfl (fun c_10 => ?_) (fun c_10 => ?_)
      · exact absurd c_10 (by decide)
      · refine b_aload_n rfl rfl ?_
        refine b_iconst rfl ?_
        refine b_iload_n rfl rfl ?_
        refine b_callV rfl rfl hk_M_doesLie rfl rfl rfl (by first | rfl | assumption) rfl (Nat.le_of_ble_eq_true rfl) (q_M_doesLie hM hQ0.1 n8 hw0.1 (show p < 4 by omega) rfl) (Nat.le_of_ble_eq_true rfl) (fun r_16 D_16 q_16 => ?_)
        obtain ⟨rfl, hq⟩ := q_16
        rw [if_pos hl] at hq
        subst hq
        refine b_if_ne rfl (fun c_19 => ?_) (fun c_19 => ?_)
        · exact absurd rfl c_19
        · refine b_iconst rfl ?_
          exact b_ireturn rfl trivial (⟨hs_um_r h0 hQ0 hp0, rfl⟩)
    · rw [if_pos ⟨hx, hl⟩]
      refine b_aload_n rfl rfl ?_
      refine b_iconst rfl ?_
      refine b_putI rfl (by first | rfl | assumption) rfl rfl ⟨rfl, rfl⟩ ?_
      have hB1 := hs_B_0 (v := 0) hB
      have hp0 := hs_pm_0 (v := 0) hp
      obtain ⟨I0, h0⟩ : ∃ z, z = hn_u I 188 0 0 := ⟨_, rfl⟩
      rw [← h0] at hB1 hp0 ⊢
      have hB2 := hB1
      obtain ⟨hR, hN, hQ, hfm, hw, hAw⟩ := hB1
      have hM := hs_M_of hR
      have hN0 := hN
      have hQ0 := hQ
      have hw0 := hw
      obtain ⟨⟨hn, n8, hnp, n4, hkn⟩, hL⟩ := hN
      obtain ⟨⟨_, hVs, hVw, hVp, hVh⟩, hVt⟩ := hQ
      simp only [Nat.zero_add] at hVs hVw hVp hVh
      obtain ⟨m1, m4, m5, m6, m9, m10, m11, m12, m14, m15, m16, m17, m20, m21, m22, m23, m25, m27, m28, m29, m30, m31, m32⟩ := id hM
      refine b_aload_n rfl rfl ?_
      refine b_iload_n rfl rfl ?_
      refine b_callV rfl rfl hk_M_isPerson rfl rfl rfl (by first | rfl | assumption) rfl (Nat.le_of_ble_eq_true rfl) (q_M_isPerson hM hnp n4) (Nat.le_of_ble_eq_true rfl) (fun r_7 D_7 q_7 => ?_)
      obtain ⟨rfl, hq⟩ := q_7
      rw [if_pos hx] at hq
      subst hq
      refine b_if_eq rfl (fun c_10 => ?_) (fun c_10 => ?_)
      · exact absurd c_10 (by decide)
      · refine b_aload_n rfl rfl ?_
        refine b_iconst rfl ?_
        refine b_iload_n rfl rfl ?_
        refine b_callV rfl rfl hk_M_doesLie rfl rfl rfl (by first | rfl | assumption) rfl (Nat.le_of_ble_eq_true rfl) (q_M_doesLie hM hQ0.1 n8 hw0.1 (show p < 4 by omega) rfl) (Nat.le_of_ble_eq_true rfl) (fun r_16 D_16 q_16 => ?_)
        obtain ⟨rfl, hq⟩ := q_16
        rw [if_neg hl] at hq
        subst hq
        refine b_if_ne rfl (fun c_19 => ?_) (fun c_19 => ?_)
        · refine b_aload_n rfl rfl ?_
          refine b_callV rfl rfl hk_M_keeps rfl rfl rfl (by first | rfl | assumption) rfl (Nat.le_of_ble_eq_true rfl) (q_M_keeps hM hQ0 hp0) (Nat.le_of_ble_eq_true rfl) (fun r_25 D_25 q_25 => ?_)
          obtain ⟨rfl, I1, rfl, f1, f2, f3, p1⟩ := q_25
          have hB3 := hs_B_kp hB2 f1 f2 f3
          refine b_aload_n rfl rfl ?_
          refine b_getR rfl (by first | rfl | assumption) rfl (by assumption) ?_
          refine b_bipush rfl ?_
          refine b_iload_n rfl rfl ?_
          refine b_iadd rfl ?_
          refine b_iaload rfl (by first | rfl | assumption) (hi_ix (13 + p) (by rw [nI_ad]; rfl) (by omega)) (by omega) ?_
          rw [show I1 204 (13 + p) = qP U.1 p by have := hB3.2.2.1.1.2.2.2.1 p (by omega); rw [Nat.zero_add] at this; exact this]
          refine b_istore_n rfl (Nat.le_of_ble_eq_true rfl) ?_
          refine b_aload_n rfl rfl ?_
          refine b_getR rfl (by first | rfl | assumption) rfl (by assumption) ?_
          refine b_bipush rfl ?_
          refine b_iload_n rfl rfl ?_
          refine b_iadd rfl ?_
          refine b_iconst rfl ?_
          refine b_iastore rfl (by first | rfl | assumption) (hi_ix (13 + p) (by rw [nI_ad]; rfl) (by omega)) (by omega) ?_
          refine b_iload_n rfl rfl ?_
          exact b_ireturn rfl trivial (⟨hs_um_now h0 f1 f2 f3 p1 (fun b hb => hn_u_ne _ _ _ (by omega)) (fun j hj => by rw [hn_u_eq, va_up, if_neg (by omega)]) (hs_put_m (by omega) hB3.2.2.1), rfl⟩)
        · exact absurd c_19 (by decide)
  · rw [u_rouse, if_neg (fun z => hx z.1)]
    refine b_aload_n rfl rfl ?_
    refine b_iconst rfl ?_
    refine b_putI rfl (by first | rfl | assumption) rfl rfl ⟨rfl, rfl⟩ ?_
    have hB1 := hs_B_0 (v := 0) hB
    have hp0 := hs_pm_0 (v := 0) hp
    obtain ⟨I0, h0⟩ : ∃ z, z = hn_u I 188 0 0 := ⟨_, rfl⟩
    rw [← h0] at hB1 hp0 ⊢
    have hB2 := hB1
    obtain ⟨hR, hN, hQ, hfm, hw, hAw⟩ := hB1
    have hM := hs_M_of hR
    have hN0 := hN
    have hQ0 := hQ
    have hw0 := hw
    obtain ⟨⟨hn, n8, hnp, n4, hkn⟩, hL⟩ := hN
    obtain ⟨⟨_, hVs, hVw, hVp, hVh⟩, hVt⟩ := hQ
    simp only [Nat.zero_add] at hVs hVw hVp hVh
    obtain ⟨m1, m4, m5, m6, m9, m10, m11, m12, m14, m15, m16, m17, m20, m21, m22, m23, m25, m27, m28, m29, m30, m31, m32⟩ := id hM
    refine b_aload_n rfl rfl ?_
    refine b_iload_n rfl rfl ?_
    refine b_callV rfl rfl hk_M_isPerson rfl rfl rfl (by first | rfl | assumption) rfl (Nat.le_of_ble_eq_true rfl) (q_M_isPerson hM hnp n4) (Nat.le_of_ble_eq_true rfl) (fun r_7 D_7 q_7 => ?_)
    obtain ⟨rfl, hq⟩ := q_7
    rw [if_neg hx] at hq
    subst hq
    refine b_if_eq rfl (fun c_10 => ?_) (fun c_10 => ?_)
    · refine b_iconst rfl ?_
      exact b_ireturn rfl trivial (⟨hs_um_r h0 hQ0 hp0, rfl⟩)
    · exact absurd rfl c_10
theorem q_M_lie {x y : Int32} (hB : hs_B I R N U.1) (hp : hs_pm I U.2.1 U.2.2) : hn_F 2 hm_M_lie [.ref 188, .int x, .int y] (I, J, R) (fun r D' => hs_um I J R (u_lie N U x y).1 D' ∧ r = some (.int (u_lie N U x y).2)) := by
  have n8' : N.1 ≤ 8 := hB.2.1.1.2.1
  have n4' : N.2.1 ≤ 4 := hB.2.1.1.2.2.2.1
  refine hn_F_of _ hk_M_lie rfl (Nat.le_of_ble_eq_true rfl) ?_
  by_cases hx : sp_in x N.2.1
  · by_cases hy : sp_in y N.1
    · obtain ⟨p, hpp, rfl⟩ := sp_in_nat hx
      rw [u_lie, nI_clamp (by omega)]
      by_cases hl : qP U.1 p = -1
      · rw [if_pos ⟨hx, hy, hl⟩]
        refine b_aload_n rfl rfl ?_
        refine b_iconst rfl ?_
        refine b_putI rfl (by first | rfl | assumption) rfl rfl ⟨rfl, rfl⟩ ?_
        have hB1 := hs_B_0 (v := 0) hB
        have hp0 := hs_pm_0 (v := 0) hp
        obtain ⟨I0, h0⟩ : ∃ z, z = hn_u I 188 0 0 := ⟨_, rfl⟩
        rw [← h0] at hB1 hp0 ⊢
        have hB2 := hB1
        obtain ⟨hR, hN, hQ, hfm, hw, hAw⟩ := hB1
        have hM := hs_M_of hR
        have hN0 := hN
        have hQ0 := hQ
        have hw0 := hw
        obtain ⟨⟨hn, n8, hnp, n4, hkn⟩, hL⟩ := hN
        obtain ⟨⟨_, hVs, hVw, hVp, hVh⟩, hVt⟩ := hQ
        simp only [Nat.zero_add] at hVs hVw hVp hVh
        obtain ⟨m1, m4, m5, m6, m9, m10, m11, m12, m14, m15, m16, m17, m20, m21, m22, m23, m25, m27, m28, m29, m30, m31, m32⟩ := id hM
        refine b_aload_n rfl rfl ?_
        refine b_iload_n rfl rfl ?_
        refine b_callV rfl rfl hk_M_isPerson rfl rfl rfl (by first | rfl | assumption) rfl (Nat.le_of_ble_eq_true rfl) (q_M_isPerson hM hnp n4) (Nat.le_of_ble_eq_true rfl) (fun r_7 D_7 q_7 => ?_)
        obtain ⟨rfl, hq⟩ := q_7
        rw [if_pos hx] at hq
        subst hq
        refine b_if_eq rfl (fun c_10 => ?_) (fun c_10 => ?_)
        · exact absurd c_10 (by decide)
        · refine b_aload_n rfl rfl ?_
          refine b_iload_n rfl rfl ?_
          refine b_callV rfl rfl hk_M_isKnot rfl rfl rfl (by first | rfl | assumption) rfl (Nat.le_of_ble_eq_true rfl) (q_M_isKnot hM hn n8) (Nat.le_of_ble_eq_true rfl) (fun r_15 D_15 q_15 => ?_)
          obtain ⟨rfl, hq⟩ := q_15
          rw [if_pos hy] at hq
          subst hq
          refine b_if_eq rfl (fun c_18 => ?_) (fun c_18 => ?_)
          · exact absurd c_18 (by decide)
          · refine b_aload_n rfl rfl ?_
            refine b_iconst rfl ?_
            refine b_iload_n rfl rfl ?_
            refine b_callV rfl rfl hk_M_doesLie rfl rfl rfl (by first | rfl | assumption) rfl (Nat.le_of_ble_eq_true rfl) (q_M_doesLie hM hQ0.1 n8 hw0.1 (show p < 4 by omega) rfl) (Nat.le_of_ble_eq_true rfl) (fun r_24 D_24 q_24 => ?_)
            obtain ⟨rfl, hq⟩ := q_24
            rw [if_pos hl] at hq
            subst hq
            refine b_if_eq rfl (fun c_27 => ?_) (fun c_27 => ?_)
            · refine b_aload_n rfl rfl ?_
              refine b_callV rfl rfl hk_M_keeps rfl rfl rfl (by first | rfl | assumption) rfl (Nat.le_of_ble_eq_true rfl) (q_M_keeps hM hQ0 hp0) (Nat.le_of_ble_eq_true rfl) (fun r_33 D_33 q_33 => ?_)
              obtain ⟨rfl, I1, rfl, f1, f2, f3, p1⟩ := q_33
              have hB3 := hs_B_kp hB2 f1 f2 f3
              refine b_aload_n rfl rfl ?_
              refine b_getR rfl (by first | rfl | assumption) rfl (by assumption) ?_
              refine b_bipush rfl ?_
              refine b_iload_n rfl rfl ?_
              refine b_iadd rfl ?_
              refine b_iload_n rfl rfl ?_
              refine b_iastore rfl (by first | rfl | assumption) (hi_ix (13 + p) (by rw [nI_ad]; rfl) (by omega)) (by omega) ?_
              refine b_iconst rfl ?_
              exact b_ireturn rfl (by first | exact Or.inl rfl | exact Or.inr rfl | exact trivial) (⟨hs_um_now h0 f1 f2 f3 p1 (fun b hb => hn_u_ne _ _ _ (by omega)) (fun j hj => by rw [hn_u_eq, va_up, if_neg (by omega)]) (hs_put_m (by omega) hB3.2.2.1), rfl⟩)
            · exact absurd rfl c_27
      · rw [if_neg (fun z => hl z.2.2)]
        refine b_aload_n rfl rfl ?_
        refine b_iconst rfl ?_
        refine b_putI rfl (by first | rfl | assumption) rfl rfl ⟨rfl, rfl⟩ ?_
        have hB1 := hs_B_0 (v := 0) hB
        have hp0 := hs_pm_0 (v := 0) hp
        obtain ⟨I0, h0⟩ : ∃ z, z = hn_u I 188 0 0 := ⟨_, rfl⟩
        rw [← h0] at hB1 hp0 ⊢
        have hB2 := hB1
        obtain ⟨hR, hN, hQ, hfm, hw, hAw⟩ := hB1
        have hM := hs_M_of hR
        have hN0 := hN
        have hQ0 := hQ
        have hw0 := hw
        obtain ⟨⟨hn, n8, hnp, n4, hkn⟩, hL⟩ := hN
        obtain ⟨⟨_, hVs, hVw, hVp, hVh⟩, hVt⟩ := hQ
        simp only [Nat.zero_add] at hVs hVw hVp hVh
        obtain ⟨m1, m4, m5, m6, m9, m10, m11, m12, m14, m15, m16, m17, m20, m21, m22, m23, m25, m27, m28, m29, m30, m31, m32⟩ := id hM
        refine b_aload_n rfl rfl ?_
        refine b_iload_n rfl rfl ?_
        refine b_callV rfl rfl hk_M_isPerson rfl rfl rfl (by first | rfl | assumption) rfl (Nat.le_of_ble_eq_true rfl) (q_M_isPerson hM hnp n4) (Nat.le_of_ble_eq_true rfl) (fun r_7 D_7 q_7 => ?_)
        obtain ⟨rfl, hq⟩ := q_7
        rw [if_pos hx] at hq
        subst hq
        refine b_if_eq rfl (fun c_10 => ?_) (fun c_10 => ?_)
        · exact absurd c_10 (by decide)
        · refine b_aload_n rfl rfl ?_
          refine b_iload_n rfl rfl ?_
          refine b_callV rfl rfl hk_M_isKnot rfl rfl rfl (by first | rfl | assumption) rfl (Nat.le_of_ble_eq_true rfl) (q_M_isKnot hM hn n8) (Nat.le_of_ble_eq_true rfl) (fun r_15 D_15 q_15 => ?_)
          obtain ⟨rfl, hq⟩ := q_15
          rw [if_pos hy] at hq
          subst hq
          refine b_if_eq rfl (fun c_18 => ?_) (fun c_18 => ?_)
          · exact absurd c_18 (by decide)
          · refine b_aload_n rfl rfl ?_
            refine b_iconst rfl ?_
            refine b_iload_n rfl rfl ?_
            refine b_callV rfl rfl hk_M_doesLie rfl rfl rfl (by first | rfl | assumption) rfl (Nat.le_of_ble_eq_true rfl) (q_M_doesLie hM hQ0.1 n8 hw0.1 (show p < 4 by omega) rfl) (Nat.le_of_ble_eq_true rfl) (fun r_24 D_24 q_24 => ?_)
            obtain ⟨rfl, hq⟩ := q_24
            rw [if_neg hl] at hq
            subst hq
            refine b_if_eq rfl (fun c_27 => ?_) (fun c_27 => ?_)
            · exact absurd c_27 (by decide)
            · refine b_iconst rfl ?_
              exact b_ireturn rfl (by first | exact Or.inl rfl | exact Or.inr rfl | exact trivial) (⟨hs_um_r h0 hQ0 hp0, rfl⟩)
    · rw [u_lie, if_neg (fun z => hy z.2.1)]
      refine b_aload_n rfl rfl ?_
      refine b_iconst rfl ?_
      refine b_putI rfl (by first | rfl | assumption) rfl rfl ⟨rfl, rfl⟩ ?_
      have hB1 := hs_B_0 (v := 0) hB
      have hp0 := hs_pm_0 (v := 0) hp
      obtain ⟨I0, h0⟩ : ∃ z, z = hn_u I 188 0 0 := ⟨_, rfl⟩
      rw [← h0] at hB1 hp0 ⊢
      have hB2 := hB1
      obtain ⟨hR, hN, hQ, hfm, hw, hAw⟩ := hB1
      have hM := hs_M_of hR
      have hN0 := hN
      have hQ0 := hQ
      have hw0 := hw
      obtain ⟨⟨hn, n8, hnp, n4, hkn⟩, hL⟩ := hN
      obtain ⟨⟨_, hVs, hVw, hVp, hVh⟩, hVt⟩ := hQ
      simp only [Nat.zero_add] at hVs hVw hVp hVh
      obtain ⟨m1, m4, m5, m6, m9, m10, m11, m12, m14, m15, m16, m17, m20, m21, m22, m23, m25, m27, m28, m29, m30, m31, m32⟩ := id hM
      refine b_aload_n rfl rfl ?_
      refine b_iload_n rfl rfl ?_
      refine b_callV rfl rfl hk_M_isPerson rfl rfl rfl (by first | rfl | assumption) rfl (Nat.le_of_ble_eq_true rfl) (q_M_isPerson hM hnp n4) (Nat.le_of_ble_eq_true rfl) (fun r_7 D_7 q_7 => ?_)
      obtain ⟨rfl, hq⟩ := q_7
      rw [if_pos hx] at hq
      subst hq
      refine b_if_eq rfl (fun c_10 => ?_) (fun c_10 => ?_)
      · exact absurd c_10 (by decide)
      · refine b_aload_n rfl rfl ?_
        refine b_iload_n rfl rfl ?_
        refine b_callV rfl rfl hk_M_isKnot rfl rfl rfl (by first | rfl | assumption) rfl (Nat.le_of_ble_eq_true rfl) (q_M_isKnot hM hn n8) (Nat.le_of_ble_eq_true rfl) (fun r_15 D_15 q_15 => ?_)
        obtain ⟨rfl, hq⟩ := q_15
        rw [if_neg hy] at hq
        subst hq
        refine b_if_eq rfl (fun c_18 => ?_) (fun c_18 => ?_)
        · refine b_iconst rfl ?_
          exact b_ireturn rfl (by first | exact Or.inl rfl | exact Or.inr rfl | exact trivial) (⟨hs_um_r h0 hQ0 hp0, rfl⟩)
        · exact absurd rfl c_18
  · rw [u_lie, if_neg (fun z => hx z.1)]
    refine b_aload_n rfl rfl ?_
    refine b_iconst rfl ?_
    refine b_putI rfl (by first | rfl | assumption) rfl rfl ⟨rfl, rfl⟩ ?_
    have hB1 := hs_B_0 (v := 0) hB
    have hp0 := hs_pm_0 (v := 0) hp
    obtain ⟨I0, h0⟩ : ∃ z, z = hn_u I 188 0 0 := ⟨_, rfl⟩
    rw [← h0] at hB1 hp0 ⊢
    have hB2 := hB1
    obtain ⟨hR, hN, hQ, hfm, hw, hAw⟩ := hB1
    have hM := hs_M_of hR
    have hN0 := hN
    have hQ0 := hQ
    have hw0 := hw
    obtain ⟨⟨hn, n8, hnp, n4, hkn⟩, hL⟩ := hN
    obtain ⟨⟨_, hVs, hVw, hVp, hVh⟩, hVt⟩ := hQ
    simp only [Nat.zero_add] at hVs hVw hVp hVh
    obtain ⟨m1, m4, m5, m6, m9, m10, m11, m12, m14, m15, m16, m17, m20, m21, m22, m23, m25, m27, m28, m29, m30, m31, m32⟩ := id hM
    refine b_aload_n rfl rfl ?_
    refine b_iload_n rfl rfl ?_
    refine b_callV rfl rfl hk_M_isPerson rfl rfl rfl (by first | rfl | assumption) rfl (Nat.le_of_ble_eq_true rfl) (q_M_isPerson hM hnp n4) (Nat.le_of_ble_eq_true rfl) (fun r_7 D_7 q_7 => ?_)
    obtain ⟨rfl, hq⟩ := q_7
    rw [if_neg hx] at hq
    subst hq
    refine b_if_eq rfl (fun c_10 => ?_) (fun c_10 => ?_)
    · refine b_iconst rfl ?_
      exact b_ireturn rfl (by first | exact Or.inl rfl | exact Or.inr rfl | exact trivial) (⟨hs_um_r h0 hQ0 hp0, rfl⟩)
    · exact absurd rfl c_10
theorem q_M_tie {x y : Int32} (hB : hs_B I R N U.1) (hp : hs_pm I U.2.1 U.2.2) : hn_F 2 hm_M_tie [.ref 188, .int x, .int y] (I, J, R) (fun r D' => hs_um I J R (u_tie N U x y).1 D' ∧ r = some (.int (u_tie N U x y).2)) := by
  have n8' : N.1 ≤ 8 := hB.2.1.1.2.1
  have n4' : N.2.1 ≤ 4 := hB.2.1.1.2.2.2.1
  refine hn_F_of _ hk_M_tie rfl (Nat.le_of_ble_eq_true rfl) ?_
  by_cases hx : sp_in x N.1
  · by_cases hy : sp_in y N.1
    · obtain ⟨k, hk, rfl⟩ := sp_in_nat hx
      obtain ⟨o, ho, rfl⟩ := sp_in_nat hy
      rw [u_tie, nI_clamp (by omega), nI_clamp (by omega)]
      by_cases hl : nI k = nI o
      · rw [if_neg (fun z => z.2.2 hl)]
        refine b_aload_n rfl rfl ?_
        refine b_iconst rfl ?_
        refine b_putI rfl (by first | rfl | assumption) rfl rfl ⟨rfl, rfl⟩ ?_
        have hB1 := hs_B_0 (v := 0) hB
        have hp0 := hs_pm_0 (v := 0) hp
        obtain ⟨I0, h0⟩ : ∃ z, z = hn_u I 188 0 0 := ⟨_, rfl⟩
        rw [← h0] at hB1 hp0 ⊢
        have hB2 := hB1
        obtain ⟨hR, hN, hQ, hfm, hw, hAw⟩ := hB1
        have hM := hs_M_of hR
        have hN0 := hN
        have hQ0 := hQ
        have hw0 := hw
        obtain ⟨⟨hn, n8, hnp, n4, hkn⟩, hL⟩ := hN
        obtain ⟨⟨_, hVs, hVw, hVp, hVh⟩, hVt⟩ := hQ
        simp only [Nat.zero_add] at hVs hVw hVp hVh
        obtain ⟨m1, m4, m5, m6, m9, m10, m11, m12, m14, m15, m16, m17, m20, m21, m22, m23, m25, m27, m28, m29, m30, m31, m32⟩ := id hM
        refine b_aload_n rfl rfl ?_
        refine b_iload_n rfl rfl ?_
        refine b_callV rfl rfl hk_M_isKnot rfl rfl rfl (by first | rfl | assumption) rfl (Nat.le_of_ble_eq_true rfl) (q_M_isKnot hM hn n8) (Nat.le_of_ble_eq_true rfl) (fun r_7 D_7 q_7 => ?_)
        obtain ⟨rfl, hq⟩ := q_7
        rw [if_pos hx] at hq
        subst hq
        refine b_if_eq rfl (fun c_10 => ?_) (fun c_10 => ?_)
        · exact absurd c_10 (by decide)
        · refine b_aload_n rfl rfl ?_
          refine b_iload_n rfl rfl ?_
          refine b_callV rfl rfl hk_M_isKnot rfl rfl rfl (by first | rfl | assumption) rfl (Nat.le_of_ble_eq_true rfl) (q_M_isKnot hM hn n8) (Nat.le_of_ble_eq_true rfl) (fun r_15 D_15 q_15 => ?_)
          obtain ⟨rfl, hq⟩ := q_15
          rw [if_pos hy] at hq
          subst hq
          refine b_if_eq rfl (fun c_18 => ?_) (fun c_18 => ?_)
          · exact absurd c_18 (by decide)
          · refine b_iload_n rfl rfl ?_
            refine b_iload_n rfl rfl ?_
            refine b_icmp_ne rfl (fun c_23 => ?_) (fun c_23 => ?_)
            · exact absurd hl c_23
            · refine b_iconst rfl ?_
              exact b_ireturn rfl trivial (⟨hs_um_r h0 hQ0 hp0, rfl⟩)
      · rw [if_pos ⟨hx, hy, hl⟩]
        refine b_aload_n rfl rfl ?_
        refine b_iconst rfl ?_
        refine b_putI rfl (by first | rfl | assumption) rfl rfl ⟨rfl, rfl⟩ ?_
        have hB1 := hs_B_0 (v := 0) hB
        have hp0 := hs_pm_0 (v := 0) hp
        obtain ⟨I0, h0⟩ : ∃ z, z = hn_u I 188 0 0 := ⟨_, rfl⟩
        rw [← h0] at hB1 hp0 ⊢
        have hB2 := hB1
        obtain ⟨hR, hN, hQ, hfm, hw, hAw⟩ := hB1
        have hM := hs_M_of hR
        have hN0 := hN
        have hQ0 := hQ
        have hw0 := hw
        obtain ⟨⟨hn, n8, hnp, n4, hkn⟩, hL⟩ := hN
        obtain ⟨⟨_, hVs, hVw, hVp, hVh⟩, hVt⟩ := hQ
        simp only [Nat.zero_add] at hVs hVw hVp hVh
        obtain ⟨m1, m4, m5, m6, m9, m10, m11, m12, m14, m15, m16, m17, m20, m21, m22, m23, m25, m27, m28, m29, m30, m31, m32⟩ := id hM
        refine b_aload_n rfl rfl ?_
        refine b_iload_n rfl rfl ?_
        refine b_callV rfl rfl hk_M_isKnot rfl rfl rfl (by first | rfl | assumption) rfl (Nat.le_of_ble_eq_true rfl) (q_M_isKnot hM hn n8) (Nat.le_of_ble_eq_true rfl) (fun r_7 D_7 q_7 => ?_)
        obtain ⟨rfl, hq⟩ := q_7
        rw [if_pos hx] at hq
        subst hq
        refine b_if_eq rfl (fun c_10 => ?_) (fun c_10 => ?_)
        · exact absurd c_10 (by decide)
        · refine b_aload_n rfl rfl ?_
          refine b_iload_n rfl rfl ?_
          refine b_callV rfl rfl hk_M_isKnot rfl rfl rfl (by first | rfl | assumption) rfl (Nat.le_of_ble_eq_true rfl) (q_M_isKnot hM hn n8) (Nat.le_of_ble_eq_true rfl) (fun r_15 D_15 q_15 => ?_)
          obtain ⟨rfl, hq⟩ := q_15
          rw [if_pos hy] at hq
          subst hq
          refine b_if_eq rfl (fun c_18 => ?_) (fun c_18 => ?_)
          · exact absurd c_18 (by decide)
          · refine b_iload_n rfl rfl ?_
            refine b_iload_n rfl rfl ?_
            refine b_icmp_ne rfl (fun c_23 => ?_) (fun c_23 => ?_)
            · refine b_aload_n rfl rfl ?_
              refine b_callV rfl rfl hk_M_keeps rfl rfl rfl (by first | rfl | assumption) rfl (Nat.le_of_ble_eq_true rfl) (q_M_keeps hM hQ0 hp0) (Nat.le_of_ble_eq_true rfl) (fun r_29 D_29 q_29 => ?_)
              obtain ⟨rfl, I1, rfl, f1, f2, f3, p1⟩ := q_29
              have hB3 := hs_B_kp hB2 f1 f2 f3
              refine b_aload_n rfl rfl ?_
              refine b_getR rfl (by first | rfl | assumption) rfl (by assumption) ?_
              refine b_iconst rfl ?_
              refine b_iload_n rfl rfl ?_
              refine b_iadd rfl ?_
              refine b_dup2_11 rfl rfl rfl ?_
              refine b_iaload rfl (by first | rfl | assumption) (hi_ix (1 + k) (by rw [nI_ad]; rfl) (by omega)) (by omega) ?_
              rw [show I1 204 (1 + k) = qS U.1 k by have := hB3.2.2.1.1.2.1 k (by omega); rw [Nat.zero_add] at this; exact this]
              refine b_iconst rfl ?_
              refine b_iload_n rfl rfl ?_
              refine b_ishl rfl ?_
              refine b_ixor rfl ?_
              refine b_iastore rfl (by first | rfl | assumption) (hi_ix (1 + k) (by rw [nI_ad]; rfl) (by omega)) (by omega) ?_
              have hT := hs_tie_m (k := k) (o := o) (by omega) hB3.2.2.1 rfl
              refine b_aload_n rfl rfl ?_
              refine b_getR rfl (by first | rfl | assumption) rfl (by assumption) ?_
              refine b_iconst rfl ?_
              refine b_iload_n rfl rfl ?_
              refine b_iadd rfl ?_
              refine b_iaload rfl (by first | rfl | assumption) (hi_ix (1 + k) (by rw [nI_ad]; rfl) (by omega)) (by omega) ?_
              rw [show hn_u I1 204 (1 + k) (qS U.1 k ^^^ ((1 : Int32) <<< (nI o &&& 31))) 204 (1 + k) = qS (sp_tie U.1 k o) k by have := hT.1.2.1 k (by omega); rw [Nat.zero_add] at this; exact this]
              refine b_iload_n rfl rfl ?_
              refine b_ishr rfl ?_
              refine b_iconst rfl ?_
              refine b_iand rfl ?_
              exact b_ireturn rfl trivial (⟨hs_um_now h0 f1 f2 f3 p1 (fun b hb => hn_u_ne _ _ _ (by omega)) (fun j hj => by rw [hn_u_eq, va_up, if_neg (by omega)]) hT, rfl⟩)
            · exact absurd c_23 hl
    · rw [u_tie, if_neg (fun z => hy z.2.1)]
      refine b_aload_n rfl rfl ?_
      refine b_iconst rfl ?_
      refine b_putI rfl (by first | rfl | assumption) rfl rfl ⟨rfl, rfl⟩ ?_
      have hB1 := hs_B_0 (v := 0) hB
      have hp0 := hs_pm_0 (v := 0) hp
      obtain ⟨I0, h0⟩ : ∃ z, z = hn_u I 188 0 0 := ⟨_, rfl⟩
      rw [← h0] at hB1 hp0 ⊢
      have hB2 := hB1
      obtain ⟨hR, hN, hQ, hfm, hw, hAw⟩ := hB1
      have hM := hs_M_of hR
      have hN0 := hN
      have hQ0 := hQ
      have hw0 := hw
      obtain ⟨⟨hn, n8, hnp, n4, hkn⟩, hL⟩ := hN
      obtain ⟨⟨_, hVs, hVw, hVp, hVh⟩, hVt⟩ := hQ
      simp only [Nat.zero_add] at hVs hVw hVp hVh
      obtain ⟨m1, m4, m5, m6, m9, m10, m11, m12, m14, m15, m16, m17, m20, m21, m22, m23, m25, m27, m28, m29, m30, m31, m32⟩ := id hM
      refine b_aload_n rfl rfl ?_
      refine b_iload_n rfl rfl ?_
      refine b_callV rfl rfl hk_M_isKnot rfl rfl rfl (by first | rfl | assumption) rfl (Nat.le_of_ble_eq_true rfl) (q_M_isKnot hM hn n8) (Nat.le_of_ble_eq_true rfl) (fun r_7 D_7 q_7 => ?_)
      obtain ⟨rfl, hq⟩ := q_7
      rw [if_pos hx] at hq
      subst hq
      refine b_if_eq rfl (fun c_10 => ?_) (fun c_10 => ?_)
      · exact absurd c_10 (by decide)
      · refine b_aload_n rfl rfl ?_
        refine b_iload_n rfl rfl ?_
        refine b_callV rfl rfl hk_M_isKnot rfl rfl rfl (by first | rfl | assumption) rfl (Nat.le_of_ble_eq_true rfl) (q_M_isKnot hM hn n8) (Nat.le_of_ble_eq_true rfl) (fun r_15 D_15 q_15 => ?_)
        obtain ⟨rfl, hq⟩ := q_15
        rw [if_neg hy] at hq
        subst hq
        refine b_if_eq rfl (fun c_18 => ?_) (fun c_18 => ?_)
        · refine b_iconst rfl ?_
          exact b_ireturn rfl trivial (⟨hs_um_r h0 hQ0 hp0, rfl⟩)
        · exact absurd rfl c_18
  · rw [u_tie, if_neg (fun z => hx z.1)]
    refine b_aload_n rfl rfl ?_
    refine b_iconst rfl ?_
    refine b_putI rfl (by first | rfl | assumption) rfl rfl ⟨rfl, rfl⟩ ?_
    have hB1 := hs_B_0 (v := 0) hB
    have hp0 := hs_pm_0 (v := 0) hp
    obtain ⟨I0, h0⟩ : ∃ z, z = hn_u I 188 0 0 := ⟨_, rfl⟩
    rw [← h0] at hB1 hp0 ⊢
    have hB2 := hB1
    obtain ⟨hR, hN, hQ, hfm, hw, hAw⟩ := hB1
    have hM := hs_M_of hR
    have hN0 := hN
    have hQ0 := hQ
    have hw0 := hw
    obtain ⟨⟨hn, n8, hnp, n4, hkn⟩, hL⟩ := hN
    obtain ⟨⟨_, hVs, hVw, hVp, hVh⟩, hVt⟩ := hQ
    simp only [Nat.zero_add] at hVs hVw hVp hVh
    obtain ⟨m1, m4, m5, m6, m9, m10, m11, m12, m14, m15, m16, m17, m20, m21, m22, m23, m25, m27, m28, m29, m30, m31, m32⟩ := id hM
    refine b_aload_n rfl rfl ?_
    refine b_iload_n rfl rfl ?_
    refine b_callV rfl rfl hk_M_isKnot rfl rfl rfl (by first | rfl | assumption) rfl (Nat.le_of_ble_eq_true rfl) (q_M_isKnot hM hn n8) (Nat.le_of_ble_eq_true rfl) (fun r_7 D_7 q_7 => ?_)
    obtain ⟨rfl, hq⟩ := q_7
    rw [if_neg hx] at hq
    subst hq
    refine b_if_eq rfl (fun c_10 => ?_) (fun c_10 => ?_)
    · refine b_iconst rfl ?_
      exact b_ireturn rfl trivial (⟨hs_um_r h0 hQ0 hp0, rfl⟩)
    · exact absurd rfl c_10
theorem hs_um_undo {I0 I1 I2 : Nat → Nat → Int32} (h0 : I0 = hn_u I 188 0 0) (hp : hs_pm I0 U.2.1 U.2.2) (hl : 0 < U.2.1) (f1 : ∀ b, b ≠ 188 → I1 b = I0 b) (f24 : I1 188 24 = nI (U.2.1 - 1)) (f188 : ∀ j, j ≠ 24 → I1 188 j = I0 188 j) (hI2 : ∀ b, ¬ b = 204 → I2 b = I1 b) (h204 : I2 204 = va_cpy (I1 204) (I1 204) (47 * (5 + (U.2.1 - 1))) 0 21) : hs_um I J R (U.2.2 0, U.2.1 - 1, fun j => U.2.2 (j + 1)) (I2, J, R) := by
  obtain ⟨p1, p2, p3⟩ := hp
  have e204 : I1 204 = I0 204 := f1 204 (by omega)
  refine ⟨rfl, rfl, fun b hb => ?_, fun j h1 h2 => ?_, fun j hj => ?_, ?_, ?_, (show U.2.1 - 1 ≤ 16 by omega), fun j hj => ?_⟩
  · show I2 b = I b; rw [hI2 b (by omega), f1 b (by omega), h0, hn_u_ne _ _ _ (by omega)]
  · show I2 188 j = _; rw [hI2 188 (by omega), f188 j h2, h0, hn_u_eq, va_up, if_neg h1]
  · show I2 204 j = _; rw [h204, cp_off (by omega), e204, h0, hn_u_ne _ _ _ (by omega)]
  · refine hs_Qm_fr (p3 0 hl) (by omega) (fun j hj => ?_)
    show I2 204 (0 + j) = _
    rw [h204, cp_at hj, e204, show U.2.1 - 1 - 0 = U.2.1 - 1 by omega]
  · show I2 188 24 = _; rw [hI2 188 (by omega), f24]
  · simp only at hj
    refine hs_Qm_fr (p3 (j + 1) (by omega)) (show 47 * (5 + (U.2.1 - 1 - 1 - j)) ≤ 1034 by omega) (fun i hi => ?_)
    show I2 204 (47 * (5 + (U.2.1 - 1 - 1 - j)) + i) = _
    rw [h204, cp_off (by omega), e204, show U.2.1 - 1 - 1 - j = U.2.1 - 1 - (j + 1) by omega]
theorem q_M_undo (hB : hs_B I R N U.1) (hp : hs_pm I U.2.1 U.2.2) : hn_F 2 hm_M_undo [.ref 188] (I, J, R) (fun r D' => hs_um I J R (u_undo U).1 D' ∧ r = some (.int (u_undo U).2)) := by
  refine hn_F_of _ hk_M_undo rfl (Nat.le_of_ble_eq_true rfl) ?_
  by_cases hl : U.2.1 = 0
  · rw [u_undo, if_pos hl]
    refine b_aload_n rfl rfl ?_
    refine b_iconst rfl ?_
    refine b_putI rfl (by first | rfl | assumption) rfl rfl ⟨rfl, rfl⟩ ?_
    have hB1 := hs_B_0 (v := 0) hB
    have hp0 := hs_pm_0 (v := 0) hp
    obtain ⟨I0, h0⟩ : ∃ z, z = hn_u I 188 0 0 := ⟨_, rfl⟩
    rw [← h0] at hB1 hp0 ⊢
    have hB2 := hB1
    obtain ⟨hR, hN, hQ, hfm, hw, hAw⟩ := hB1
    have hM := hs_M_of hR
    have hN0 := hN
    have hQ0 := hQ
    have hw0 := hw
    obtain ⟨⟨hn, n8, hnp, n4, hkn⟩, hL⟩ := hN
    obtain ⟨⟨_, hVs, hVw, hVp, hVh⟩, hVt⟩ := hQ
    simp only [Nat.zero_add] at hVs hVw hVp hVh
    obtain ⟨m1, m4, m5, m6, m9, m10, m11, m12, m14, m15, m16, m17, m20, m21, m22, m23, m25, m27, m28, m29, m30, m31, m32⟩ := id hM
    refine b_aload_n rfl rfl ?_
    refine b_getI rfl (by first | rfl | assumption) rfl ?_
    rw [hp0.1, hl]
    refine b_if_ne rfl (fun c_9 => ?_) (fun c_9 => ?_)
    · exact absurd rfl c_9
    · refine b_iconst rfl ?_
      exact b_ireturn rfl (by first | exact Or.inl rfl | exact Or.inr rfl | exact trivial) (⟨hs_um_r h0 hQ0 hp0, rfl⟩)
  · rw [u_undo, if_neg hl]
    have hle := hp.2.1
    have e1 : nI U.2.1 - 1 = nI (U.2.1 - 1) := by
      rw [show nI U.2.1 = nI (U.2.1 - 1) + 1 by rw [← @nI_succ (U.2.1 - 1)]; congr 1; omega, Int32.add_sub_cancel]
    refine b_aload_n rfl rfl ?_
    refine b_iconst rfl ?_
    refine b_putI rfl (by first | rfl | assumption) rfl rfl ⟨rfl, rfl⟩ ?_
    have hB1 := hs_B_0 (v := 0) hB
    have hp0 := hs_pm_0 (v := 0) hp
    obtain ⟨I0, h0⟩ : ∃ z, z = hn_u I 188 0 0 := ⟨_, rfl⟩
    rw [← h0] at hB1 hp0 ⊢
    have hB2 := hB1
    obtain ⟨hR, hN, hQ, hfm, hw, hAw⟩ := hB1
    have hM := hs_M_of hR
    have hN0 := hN
    have hQ0 := hQ
    have hw0 := hw
    obtain ⟨⟨hn, n8, hnp, n4, hkn⟩, hL⟩ := hN
    obtain ⟨⟨_, hVs, hVw, hVp, hVh⟩, hVt⟩ := hQ
    simp only [Nat.zero_add] at hVs hVw hVp hVh
    obtain ⟨m1, m4, m5, m6, m9, m10, m11, m12, m14, m15, m16, m17, m20, m21, m22, m23, m25, m27, m28, m29, m30, m31, m32⟩ := id hM
    refine b_aload_n rfl rfl ?_
    refine b_getI rfl (by first | rfl | assumption) rfl ?_
    rw [hp0.1]
    refine b_if_ne rfl (fun c_9 => ?_) (fun c_9 => ?_)
    · refine b_aload_n rfl rfl ?_
      refine b_dup rfl rfl ?_
      refine b_getI rfl (by first | rfl | assumption) rfl ?_
      rw [hp0.1]
      refine b_iconst rfl ?_
      refine b_isub rfl ?_
      rw [e1]
      refine b_putI rfl (by first | rfl | assumption) rfl rfl ⟨rfl, rfl⟩ ?_
      obtain ⟨I1, hI1⟩ : ∃ z, z = hn_u I0 188 24 (nI (U.2.1 - 1)) := ⟨_, rfl⟩
      rw [← hI1]
      have f1 : ∀ b, b ≠ 188 → I1 b = I0 b := fun b hb => by rw [hI1, hn_u_ne _ _ _ hb]
      have f24 : I1 188 24 = nI (U.2.1 - 1) := by rw [hI1, hn_u_eq, va_up, if_pos rfl]
      have f188 : ∀ j, j ≠ 24 → I1 188 j = I0 188 j := fun j hj => by rw [hI1, hn_u_eq, va_up, if_neg hj]
      refine b_aload_n rfl rfl ?_
      refine b_bipush rfl ?_
      refine b_iconst rfl ?_
      refine b_aload_n rfl rfl ?_
      refine b_getI rfl (by first | rfl | assumption) rfl ?_
      refine b_iadd rfl ?_
      rw [f24]
      refine b_imul rfl ?_
      rw [nI_47]
      refine b_iconst rfl ?_
      refine b_bipush rfl ?_
      refine b_callV rfl rfl hk_M_copies rfl rfl rfl (by first | rfl | assumption) rfl (Nat.le_of_ble_eq_true rfl) (q_M_copies (f := 47 * (5 + (U.2.1 - 1))) (t := 0) (m := 21) hM (by omega) (by omega) (by omega) rfl rfl rfl) (Nat.le_of_ble_eq_true rfl) (fun r_37 D_37 q_37 => ?_)
      obtain ⟨rfl, hf, h204⟩ := q_37
      obtain ⟨I2, rfl, hI2⟩ := hf.out
      replace h204 : I2 204 = va_cpy (I1 204) (I1 204) (47 * (5 + (U.2.1 - 1))) 0 21 := h204
      refine b_iconst rfl ?_
      exact b_ireturn rfl (by first | exact Or.inl rfl | exact Or.inr rfl | exact trivial) (⟨hs_um_undo h0 hp0 (by omega) f1 f24 f188 hI2 h204, rfl⟩)
    · exact absurd c_9 (fun z => hl ((hi_nIe (k := 0) (by omega) (by omega)).mp z))
end HNmhand
