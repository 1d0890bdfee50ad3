section HNclear
variable {I I' : Nat → Nat → Int32} {J J' : Nat → Nat → Int64} {R R' : Nat → Nat → Option Nat}
theorem cl_up {g g0 : Nat → Int32} {k : Nat} {v : Int32} (h : ∀ i, g i = if i < k then v else g0 i) : ∀ i, va_up g k v i = if i < k + 1 then v else g0 i := by
  intro i
  unfold va_up
  by_cases hi : i = k
  · rw [if_pos hi, if_pos (by omega)]
  · rw [if_neg hi, h i]
    by_cases h2 : i < k
    · rw [if_pos h2, if_pos (by omega)]
    · rw [if_neg h2, if_neg (by omega)]
/-- a state as nobody's, nothing told -/
def hs_cl (I I2 : Nat → Nat → Int32) (a : Nat) : Prop := (∀ b, b < a ∨ a + 4 < b → I2 b = I b) ∧ I2 a 4 = 0 ∧ I2 a 5 = 0 ∧ I2 a 6 = 0 ∧ (∀ i, I2 (a + 1) i = if i < 8 then 0 else I (a + 1) i) ∧ (∀ i, I2 (a + 2) i = if i < 4 then 0 else I (a + 2) i) ∧ (∀ i, I2 (a + 3) i = if i < 4 then -1 else I (a + 3) i) ∧ ∀ i, I2 (a + 4) i = if i < 4 then 0 else I (a + 4) i
theorem q_State_clear {a : Nat} (hSt : hs_St R a) : hn_F 0 hm_State_clear [.ref a] (I, J, R) (fun r D' => r = none ∧ ∃ I2, D' = (I2, J, R) ∧ hs_cl I I2 a) := by
  refine hn_F_of _ hk_State_clear rfl (Nat.le_of_ble_eq_true rfl) ?_
  obtain ⟨sa, sk0, sk1, sk2, sk3, sk4, g0, g1, g2, g3⟩ := hSt
  obtain ⟨I1, hI1⟩ : ∃ z, z = hn_u (hn_u (hn_u I a 4 0) a 5 0) a 6 0 := ⟨_, rfl⟩
  have u1 : ∀ b, b ≠ a → I1 b = I b := fun b hb => by rw [hI1, hn_u_ne _ _ _ hb, hn_u_ne _ _ _ hb, hn_u_ne _ _ _ hb]
  have u4 : I1 a 4 = 0 := by rw [hI1, hn_u_eq, va_up, if_neg (by omega), hn_u_eq, va_up, if_neg (by omega), hn_u_eq, va_up, if_pos rfl]
  have u5 : I1 a 5 = 0 := by rw [hI1, hn_u_eq, va_up, if_neg (by omega), hn_u_eq, va_up, if_pos rfl]
  have u6 : I1 a 6 = 0 := by rw [hI1, hn_u_eq, va_up, if_pos rfl]
  obtain ⟨P, hP⟩ : ∃ P : Option Value → hnD → Prop, P = (fun r D' => r = none ∧ ∃ I2, D' = (I2, J, R) ∧ hs_cl I I2 a) := ⟨_, rfl⟩
  rw [← hP]
  have lp2 : ∀ I', (∀ b, b ≠ a + 2 → b ≠ a + 3 → b ≠ a + 4 → b ≠ a + 1 → I' b = I1 b) → (∀ i, I' (a + 1) i = if i < 8 then 0 else I (a + 1) i) → (∀ i, I' (a + 2) i = if i < 0 then 0 else I (a + 2) i) → (∀ i, I' (a + 3) i = if i < 0 then -1 else I (a + 3) i) → (∀ i, I' (a + 4) i = if i < 0 then 0 else I (a + 4) i) → hn_B 0 hm_State_clear P 38 [.ref a, .int (nI 0)] [] (I', J, R) := by
    refine sp_ind 4 (fun k => ∀ I', (∀ b, b ≠ a + 2 → b ≠ a + 3 → b ≠ a + 4 → b ≠ a + 1 → I' b = I1 b) → (∀ i, I' (a + 1) i = if i < 8 then 0 else I (a + 1) i) → (∀ i, I' (a + 2) i = if i < k then 0 else I (a + 2) i) → (∀ i, I' (a + 3) i = if i < k then -1 else I (a + 3) i) → (∀ i, I' (a + 4) i = if i < k then 0 else I (a + 4) i) → hn_B 0 hm_State_clear P 38 [.ref a, .int (nI k)] [] (I', J, R)) ?_ ?_
    · intro I' f0 f1 f2 f3 f4
      refine b_iload_n rfl rfl ?_
      refine b_iconst rfl ?_
      refine b_icmp_ge rfl (fun c_40 => ?_) (fun c_40 => ?_)
      · exact b_return_ rfl trivial ((by rw [hP]; exact ⟨rfl, _, rfl, fun b hb => by rw [f0 b (by omega) (by omega) (by omega) (by omega)]; exact u1 b (by omega), by rw [f0 a (by omega) (by omega) (by omega) (by omega)]; exact u4, by rw [f0 a (by omega) (by omega) (by omega) (by omega)]; exact u5, by rw [f0 a (by omega) (by omega) (by omega) (by omega)]; exact u6, f1, f2, f3, f4⟩))
      · exact absurd (show (4 : Int32) ≤ nI 4 by decide) c_40
    · intro k hk ih I' f0 f1 f2 f3 f4
      have n32 : a + 3 ≠ a + 2 := by omega
      have n23 : a + 2 ≠ a + 3 := by omega
      have n24 : a + 2 ≠ a + 4 := by omega
      have n34 : a + 3 ≠ a + 4 := by omega
      have n42 : a + 4 ≠ a + 2 := by omega
      have n43 : a + 4 ≠ a + 3 := by omega
      refine b_iload_n rfl rfl ?_
      refine b_iconst rfl ?_
      refine b_icmp_ge rfl (fun c_40 => ?_) (fun c_40 => ?_)
      · exact absurd c_40 (nI_ge (b := 4) hk (by omega))
      · refine b_aload_n rfl rfl ?_
        refine b_getR rfl (by first | rfl | assumption) rfl (by assumption) ?_
        refine b_iload_n rfl rfl ?_
        refine b_iconst rfl ?_
        refine b_iastore rfl (by first | rfl | assumption) (nI_toInt (n := k) (by omega)) (by omega) ?_
        refine b_aload_n rfl rfl ?_
        refine b_getR rfl (by first | rfl | assumption) rfl (by assumption) ?_
        refine b_iload_n rfl rfl ?_
        refine b_iconst rfl ?_
        refine b_iastore rfl (by first | rfl | assumption) (nI_toInt (n := k) (by omega)) (by omega) ?_
        refine b_aload_n rfl rfl ?_
        refine b_getR rfl (by first | rfl | assumption) rfl (by assumption) ?_
        refine b_iload_n rfl rfl ?_
        refine b_iconst rfl ?_
        refine b_iastore rfl (by first | rfl | assumption) (nI_toInt (n := k) (by omega)) (by omega) ?_
        refine b_iinc rfl rfl (Nat.le_of_ble_eq_true rfl) ?_
        refine b_goto rfl ?_
        exact b_lp (ih _ (fun b b2 b3 b4 b1 => by rw [hn_u_ne _ _ _ b4, hn_u_ne _ _ _ b3, hn_u_ne _ _ _ b2]; exact f0 b b2 b3 b4 b1) (by rw [hn_u_ne _ _ _ (show a + 1 ≠ a + 4 by omega), hn_u_ne _ _ _ (show a + 1 ≠ a + 3 by omega), hn_u_ne _ _ _ (show a + 1 ≠ a + 2 by omega)]; exact f1) (by rw [hn_u_ne _ _ _ n24, hn_u_ne _ _ _ n23, hn_u_eq]; exact cl_up f2) (by rw [hn_u_ne _ _ _ n34, hn_u_eq, hn_u_ne _ _ _ n32]; exact cl_up f3) (by rw [hn_u_eq, hn_u_ne _ _ _ n43, hn_u_ne _ _ _ n42]; exact cl_up f4)) (le_e (le_q (by rw [nI_succ]) le_0)) rfl rfl
  have lp1 : ∀ I', (∀ b, b ≠ a + 1 → I' b = I1 b) → (∀ i, I' (a + 1) i = if i < 0 then 0 else I (a + 1) i) → hn_B 0 hm_State_clear P 17 [.ref a, .int (nI 0)] [] (I', J, R) := by
    refine sp_ind 8 (fun k => ∀ I', (∀ b, b ≠ a + 1 → I' b = I1 b) → (∀ i, I' (a + 1) i = if i < k then 0 else I (a + 1) i) → hn_B 0 hm_State_clear P 17 [.ref a, .int (nI k)] [] (I', J, R)) ?_ ?_
    · intro I' f0 f1
      refine b_iload_n rfl rfl ?_
      refine b_bipush rfl ?_
      refine b_icmp_ge rfl (fun c_20 => ?_) (fun c_20 => ?_)
      · refine b_iconst rfl ?_
        refine b_istore_n rfl (Nat.le_of_ble_eq_true rfl) ?_
        exact b_lp (lp2 I' (fun b _ _ _ b1 => f0 b b1) f1 (fun i => by rw [if_neg (by omega), f0 _ (by omega), u1 _ (by omega)]) (fun i => by rw [if_neg (by omega), f0 _ (by omega), u1 _ (by omega)]) (fun i => by rw [if_neg (by omega), f0 _ (by omega), u1 _ (by omega)])) (le_e (le_q (by rfl) le_0)) rfl rfl
      · exact absurd (show (8 : Int32) ≤ nI 8 by decide) c_20
    · intro k hk ih I' f0 f1
      refine b_iload_n rfl rfl ?_
      refine b_bipush rfl ?_
      refine b_icmp_ge rfl (fun c_20 => ?_) (fun c_20 => ?_)
      · exact absurd c_20 (nI_ge (b := 8) hk (by omega))
      · refine b_aload_n rfl rfl ?_
        refine b_getR rfl (by first | rfl | assumption) rfl (by assumption) ?_
        refine b_iload_n rfl rfl ?_
        refine b_iconst rfl ?_
        refine b_iastore rfl (by first | rfl | assumption) (nI_toInt (n := k) (by omega)) (by omega) ?_
        refine b_iinc rfl rfl (Nat.le_of_ble_eq_true rfl) ?_
        refine b_goto rfl ?_
        exact b_lp (ih _ (fun b b1 => by rw [hn_u_ne _ _ _ b1]; exact f0 b b1) (by rw [hn_u_eq]; exact cl_up f1)) (le_e (le_q (by rw [nI_succ]) le_0)) rfl rfl
  refine b_aload_n rfl rfl ?_
  refine b_iconst rfl ?_
  refine b_putI rfl (by first | rfl | assumption) rfl rfl ⟨rfl, rfl⟩ ?_
  refine b_aload_n rfl rfl ?_
  refine b_iconst rfl ?_
  refine b_putI rfl (by first | rfl | assumption) rfl rfl ⟨rfl, rfl⟩ ?_
  refine b_aload_n rfl rfl ?_
  refine b_iconst rfl ?_
  refine b_putI rfl (by first | rfl | assumption) rfl rfl ⟨rfl, rfl⟩ ?_
  rw [← hI1]
  refine b_iconst rfl ?_
  refine b_istore_n rfl (Nat.le_of_ble_eq_true rfl) ?_
  exact b_lp (lp1 I1 (fun _ _ => rfl) (fun i => by rw [if_neg (by omega), u1 _ (by omega)])) (le_e (le_q (by rfl) le_0)) rfl rfl
end HNclear
