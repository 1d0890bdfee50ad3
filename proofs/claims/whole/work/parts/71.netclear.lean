section HNnetclear
variable {I I' : Nat → Nat → Int32} {J J' : Nat → Nat → Int64} {R R' : Nat → Nat → Option Nat}
theorem q_Lulls_emit {t z : Nat} {v : Int32} (hN : hs_Net R t) (hz : I (t + 6) 1 = nI z) (h : z < 1000) : hn_F 0 hm_Lulls_emit [.ref (t + 6), .int v] (I, J, R) (fun r D' => r = none ∧ D' = (hn_u (hn_u I (t + 7) z v) (t + 6) 1 (nI (z + 1)), J, R)) := by
  refine hn_F_of _ hk_Lulls_emit rfl (Nat.le_of_ble_eq_true rfl) ?_
  obtain ⟨tt5, tn0, tn1, tn2, tn3, tn4, tn5, tn6, tn7, tn8, tn9, tn10, ts1, ts2, ts3, ts4, ts5, ts7, ts8, tl0, tl2, tl6, tl7⟩ := hN
  have hz2 : hn_u I (t + 7) z v (t + 6) 1 = nI z := by rw [hn_u_ne _ _ _ (show t + 6 ≠ t + 7 by omega)]; exact hz
  refine b_aload_n rfl rfl ?_
  refine b_getI rfl (by first | rfl | assumption) rfl ?_
  rw [hz]
  refine b_sipush rfl ?_
  refine b_icmp_ge rfl (fun c_7 => ?_) (fun c_7 => ?_)
  · exact absurd c_7 (nI_ge (b := 1000) h (by omega))
  · refine b_aload_n rfl rfl ?_
    refine b_getR rfl (by first | rfl | assumption) rfl (by assumption) ?_
    refine b_aload_n rfl rfl ?_
    refine b_getI rfl (by first | rfl | assumption) rfl ?_
    rw [hz]
    refine b_iload_n rfl rfl ?_
    refine b_iastore rfl (by first | rfl | assumption) (nI_toInt (n := z) (by omega)) (by omega) ?_
    refine b_aload_n rfl rfl ?_
    refine b_dup rfl rfl ?_
    refine b_getI rfl (by first | rfl | assumption) rfl ?_
    rw [hz2]
    refine b_iconst rfl ?_
    refine b_iadd rfl ?_
    rw [← nI_succ]
    refine b_putI rfl (by first | rfl | assumption) rfl rfl ⟨rfl, rfl⟩ ?_
    exact b_return_ rfl trivial (⟨rfl, rfl⟩)
theorem q_Lulls_beOne {t : Nat} (hN : hs_Net R t) : hn_F 1 hm_Lulls_beOne [.ref (t + 6)] (I, J, R) (fun r D' => r = none ∧ D' = (hn_u (hn_u (hn_u I (t + 6) 1 0) (t + 7) 0 1) (t + 6) 1 (nI 1), J, R)) := by
  refine hn_F_of _ hk_Lulls_beOne rfl (Nat.le_of_ble_eq_true rfl) ?_
  have hN0 := hN
  obtain ⟨tt5, tn0, tn1, tn2, tn3, tn4, tn5, tn6, tn7, tn8, tn9, tn10, ts1, ts2, ts3, ts4, ts5, ts7, ts8, tl0, tl2, tl6, tl7⟩ := hN
  refine b_aload_n rfl rfl ?_
  refine b_iconst rfl ?_
  refine b_putI rfl (by first | rfl | assumption) rfl rfl ⟨rfl, rfl⟩ ?_
  refine b_aload_n rfl rfl ?_
  refine b_iconst rfl ?_
  refine b_callV rfl rfl hk_Lulls_emit rfl rfl rfl (by first | rfl | assumption) rfl (Nat.le_of_ble_eq_true rfl) (q_Lulls_emit (z := 0) hN0 (by rw [hn_u_eq, va_up, if_pos rfl]; rfl) (by omega)) (Nat.le_of_ble_eq_true rfl) (fun r_7 D_7 q_7 => ?_)
  obtain ⟨rfl, rfl⟩ := q_7
  exact b_return_ rfl trivial (⟨rfl, rfl⟩)
/-- a net of which nothing is told -/
def hs_nc (I I2 : Nat → Nat → Int32) (t : Nat) : Prop := (∀ b, b < t ∨ t + 15 < b → I2 b = I b) ∧ I2 t 0 = 0 ∧ I2 t 6 = 0 ∧ I2 (t + 6) 1 = nI 1 ∧ I2 (t + 7) 0 = 1 ∧ I2 (t + 2) = I (t + 2) ∧ I2 (t + 3) = I (t + 3) ∧ (∀ i, I2 (t + 4) i = if i < 8 then 0 else I (t + 4) i) ∧ ∃ I1, (∀ b, t + 11 ≤ b → I1 b = I b) ∧ ∃ I3, hs_cl I1 I3 (t + 11) ∧ ∀ b, t + 11 ≤ b → I2 b = I3 b
theorem q_Net_clear {t : Nat} (hN : hs_Net R t) (hSt : hs_St R (t + 11)) : hn_F 2 hm_Net_clear [.ref t] (I, J, R) (fun r D' => r = none ∧ ∃ I2, D' = (I2, J, R) ∧ hs_nc I I2 t) := by
  refine hn_F_of _ hk_Net_clear rfl (Nat.le_of_ble_eq_true rfl) ?_
  have hN0 := hN
  obtain ⟨tt5, tn0, tn1, tn2, tn3, tn4, tn5, tn6, tn7, tn8, tn9, tn10, ts1, ts2, ts3, ts4, ts5, ts7, ts8, tl0, tl2, tl6, tl7⟩ := hN
  have sk0 := hSt.2.1
  obtain ⟨P, hP⟩ : ∃ P : Option Value → hnD → Prop, P = (fun r D' => r = none ∧ ∃ I2, D' = (I2, J, R) ∧ hs_nc I I2 t) := ⟨_, rfl⟩
  rw [← hP]
  obtain ⟨I1, hI1⟩ : ∃ z, z = hn_u (hn_u (hn_u (hn_u (hn_u I t 0 0) t 6 0) (t + 6) 1 0) (t + 7) 0 1) (t + 6) 1 (nI 1) := ⟨_, rfl⟩
  have u1 : ∀ b, b ≠ t → b ≠ t + 6 → b ≠ t + 7 → I1 b = I b := fun b b0 b6 b7 => by rw [hI1, hn_u_ne _ _ _ b6, hn_u_ne _ _ _ b7, hn_u_ne _ _ _ b6, hn_u_ne _ _ _ b0, hn_u_ne _ _ _ b0]
  have n06 : t ≠ t + 6 := by omega
  have n07 : t ≠ t + 7 := by omega
  have n76 : t + 7 ≠ t + 6 := by omega
  have u0 : I1 t 0 = 0 := by rw [hI1, hn_u_ne _ _ _ n06, hn_u_ne _ _ _ n07, hn_u_ne _ _ _ n06, hn_u_eq, va_up, if_neg (by omega), hn_u_eq, va_up, if_pos rfl]
  have u6 : I1 t 6 = 0 := by rw [hI1, hn_u_ne _ _ _ n06, hn_u_ne _ _ _ n07, hn_u_ne _ _ _ n06, hn_u_eq, va_up, if_pos rfl]
  have ul : I1 (t + 6) 1 = nI 1 := by rw [hI1, hn_u_eq, va_up, if_pos rfl]
  have uc : I1 (t + 7) 0 = 1 := by rw [hI1, hn_u_ne _ _ _ n76, hn_u_eq, va_up, if_pos rfl]
  have lp : ∀ I3, hs_cl I1 I3 (t + 11) → ∀ I', (∀ b, b ≠ t + 4 → I' b = I3 b) → (∀ i, I' (t + 4) i = if i < 0 then 0 else I (t + 4) i) → hn_B 2 hm_Net_clear P 26 [.ref t, .int (nI 0)] [] (I', J, R) := by
    intro I3 hc
    refine sp_ind 8 (fun k => ∀ I', (∀ b, b ≠ t + 4 → I' b = I3 b) → (∀ i, I' (t + 4) i = if i < k then 0 else I (t + 4) i) → hn_B 2 hm_Net_clear P 26 [.ref t, .int (nI k)] [] (I', J, R)) ?_ ?_
    · intro I' f0 f1
      have f2 : ∀ b, b ≠ t + 4 → b < t + 11 ∨ t + 15 < b → I' b = I1 b := fun b b4 hb => (f0 b b4).trans (hc.1 b (by omega))
      refine b_iload_n rfl rfl ?_
      refine b_bipush rfl ?_
      refine b_icmp_ge rfl (fun c_29 => ?_) (fun c_29 => ?_)
      · exact b_return_ rfl trivial ((by rw [hP]; exact ⟨rfl, _, rfl, fun b hb => by rw [f2 b (by omega) (by omega)]; exact u1 b (by omega) (by omega) (by omega), by rw [f2 t (by omega) (by omega)]; exact u0, by rw [f2 t (by omega) (by omega)]; exact u6, by rw [f2 (t + 6) (by omega) (by omega)]; exact ul, by rw [f2 (t + 7) (by omega) (by omega)]; exact uc, by rw [f2 (t + 2) (by omega) (by omega)]; exact u1 _ (by omega) (by omega) (by omega), by rw [f2 (t + 3) (by omega) (by omega)]; exact u1 _ (by omega) (by omega) (by omega), f1, I1, fun b hb => u1 b (by omega) (by omega) (by omega), I3, hc, fun b hb => f0 b (by omega)⟩))
      · exact absurd (show (8 : Int32) ≤ nI 8 by decide) c_29
    · intro k hk ih I' f0 f1
      refine b_iload_n rfl rfl ?_
      refine b_bipush rfl ?_
      refine b_icmp_ge rfl (fun c_29 => ?_) (fun c_29 => ?_)
      · exact absurd c_29 (nI_ge (b := 8) hk (by omega))
      · refine b_aload_n rfl rfl ?_
        refine b_getR rfl (by first | rfl | assumption) rfl (by assumption) ?_
        refine b_iload_n rfl rfl ?_
        refine b_iconst rfl ?_
        refine b_iastore rfl (by first | rfl | assumption) (nI_toInt (n := k) (by omega)) (by omega) ?_
        refine b_iinc rfl rfl (Nat.le_of_ble_eq_true rfl) ?_
        refine b_goto rfl ?_
        exact b_lp (ih _ (fun b b1 => by rw [hn_u_ne _ _ _ b1]; exact f0 b b1) (by rw [hn_u_eq]; exact cl_up f1)) (le_e (le_q (by rw [nI_succ]) le_0)) rfl rfl
  refine b_aload_n rfl rfl ?_
  refine b_iconst rfl ?_
  refine b_putI rfl (by first | rfl | assumption) rfl rfl ⟨rfl, rfl⟩ ?_
  refine b_aload_n rfl rfl ?_
  refine b_iconst rfl ?_
  refine b_putI rfl (by first | rfl | assumption) rfl rfl ⟨rfl, rfl⟩ ?_
  refine b_aload_n rfl rfl ?_
  refine b_getR rfl (by first | rfl | assumption) rfl (by assumption) ?_
  refine b_callV rfl rfl hk_Lulls_beOne rfl rfl rfl (by first | rfl | assumption) rfl (Nat.le_of_ble_eq_true rfl) (q_Lulls_beOne hN0) (Nat.le_of_ble_eq_true rfl) (fun r_14 D_14 q_14 => ?_)
  obtain ⟨rfl, rfl⟩ := q_14
  rw [← hI1]
  refine b_aload_n rfl rfl ?_
  refine b_getR rfl (by first | rfl | assumption) rfl (by assumption) ?_
  refine b_callV rfl rfl hk_State_clear rfl rfl rfl (by first | rfl | assumption) rfl (Nat.le_of_ble_eq_true rfl) (q_State_clear hSt) (Nat.le_of_ble_eq_true rfl) (fun r_21 D_21 q_21 => ?_)
  obtain ⟨rfl, I3, rfl, hc⟩ := q_21
  refine b_iconst rfl ?_
  refine b_istore_n rfl (Nat.le_of_ble_eq_true rfl) ?_
  exact b_lp (lp I3 hc I3 (fun _ _ => rfl) (fun i => by rw [if_neg (by omega), hc.1 _ (by omega), u1 _ (by omega) (by omega) (by omega)])) (le_e (le_q (by rfl) le_0)) rfl rfl
end HNnetclear
