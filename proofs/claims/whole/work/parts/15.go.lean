section HNgo
variable {I : Nat → Nat → Int32} {J : Nat → Nat → Int64} {R : Nat → Nat → Option Nat}
theorem sp_clamp_eq (v : Int32) : (if (0 : Int32) < (if v < 9 then v else 9) then (if v < 9 then v else 9) else 0) = sp_clamp v := by
  have e9 : (9 : Int32).toInt = 9 := by decide
  have l9 := hi_lt (x := v) (y := 9) rfl e9
  have g9 := hi_lt (x := 9) (y := v) e9 rfl
  have l0 := hi_lt (x := v) (y := 0) rfl hi_t0
  have g0 := hi_lt (x := 0) (y := v) hi_t0 rfl
  have p9 : (0 : Int32) < 9 := by decide
  unfold sp_clamp
  by_cases h1 : v < 9
  · rw [if_pos h1]
    have h2 : ¬ 9 < v := by rw [g9]; have := l9.mp h1; omega
    rw [if_neg h2]
    by_cases h3 : (0 : Int32) < v
    · rw [if_pos h3, if_neg (by rw [l0]; have := g0.mp h3; omega)]
    · rw [if_neg h3]
      by_cases h4 : v < 0
      · rw [if_pos h4]
      · rw [if_neg h4]
        exact (hi_eq (by rw [hi_t0]; have a := mt l0.mpr h4; have b := mt g0.mpr h3; omega)).symm
  · rw [if_neg h1, if_pos p9, if_neg (by rw [l0]; have := mt l9.mpr h1; omega)]
    by_cases h2 : 9 < v
    · rw [if_pos h2]
    · rw [if_neg h2]
      exact hi_eq (by rw [e9]; have a := mt l9.mpr h1; have b := mt g9.mpr h2; omega)
theorem q_Net_willAt {t sz k : Nat} {will many others fm : Int32} (ht : hs_Net R t) (hc : hs_code I t sz) (hk : k < 8) : hn_F 3 hm_Net_willAt [.ref t, .int (nI k), .int will, .int many, .int others, .int fm] (I, J, R) (fun r D' => hs_fr I J R D' (fun b => b = t + 9 ∨ b = t + 10) ∧ r = some (.int (sp_will (I (t + 2)) (I (t + 3)) (hs_lf I t sz) fm k will many others))) := by
  have ht0 := ht
  obtain ⟨ht5, n0, n1, n2, n3, n4, n5, n6, n7, n8, n9, n10, s1, s2, s3, s4, s5, s7, s8, l0, l2, l6, l7⟩ := ht
  refine hn_F_of _ hk_Net_willAt rfl (Nat.le_of_ble_eq_true rfl) ?_
  refine b_aload_n rfl rfl ?_
  refine b_getR rfl (by first | rfl | assumption) rfl (by assumption) ?_
  refine b_aload_n rfl rfl ?_
  refine b_getR rfl (by first | rfl | assumption) rfl (by assumption) ?_
  refine b_iload_n rfl rfl ?_
  refine b_iaload rfl (by first | rfl | assumption) (by first | assumption | exact nI_toInt (by omega) | exact hi_l0 | exact hi_l1 | exact hi_l2 | exact hi_l3 | exact hi_l4 | exact hi_l5 | exact hi_l6) (by omega) ?_
  refine b_iload_n rfl rfl ?_
  refine b_iload_n rfl rfl ?_
  refine b_iload rfl rfl ?_
  refine b_callV rfl rfl hk_Lulls_value rfl rfl rfl (by first | rfl | assumption) rfl (Nat.le_of_ble_eq_true rfl) (q_Lulls_value ht0 hc) (Nat.le_of_ble_eq_true rfl) (fun r_14 D_14 q_14 => ?_)
  obtain ⟨hf, rfl⟩ := q_14
  obtain ⟨I1, rfl, hI1⟩ := hf.out
  have e2 := hI1 (t + 2) (by omega)
  refine b_istore rfl (Nat.le_of_ble_eq_true rfl) ?_
  refine b_iconst rfl ?_
  refine b_bipush rfl ?_
  refine b_iload rfl rfl ?_
  refine b_mmin rfl rfl (by decide) (Nat.le_of_ble_eq_true rfl) ?_
  refine b_mmax rfl rfl (by decide) (Nat.le_of_ble_eq_true rfl) ?_
  rw [sp_clamp_eq]
  refine b_istore rfl (Nat.le_of_ble_eq_true rfl) ?_
  refine b_aload_n rfl rfl ?_
  refine b_iload_n rfl rfl ?_
  refine b_iload rfl rfl ?_
  refine b_callV rfl rfl hk_Net_kindOf rfl rfl rfl (by first | rfl | assumption) rfl (Nat.le_of_ble_eq_true rfl) (q_Net_kindOf (fm := fm) ht0 hk) (Nat.le_of_ble_eq_true rfl) (fun r_36 D_36 q_36 => ?_)
  obtain ⟨rfl, rfl⟩ := q_36
  refine b_istore rfl (Nat.le_of_ble_eq_true rfl) ?_
  refine b_iload_n rfl rfl ?_
  refine b_iload rfl rfl ?_
  refine b_iconst rfl ?_
  refine b_icmp_ne rfl (fun c_45 => ?_) (fun c_45 => ?_)
  · refine b_iload rfl rfl ?_
    refine b_isub rfl ?_
    refine b_istore rfl (Nat.le_of_ble_eq_true rfl) ?_
    refine b_iload rfl rfl ?_
    refine b_iconst rfl ?_
    refine b_icmp_ne rfl (fun c_63 => ?_) (fun c_63 => ?_)
    · refine b_iconst rfl ?_
      refine b_iload rfl rfl ?_
      refine b_mmax rfl rfl (by decide) (Nat.le_of_ble_eq_true rfl) ?_
      exact b_ireturn rfl trivial (⟨⟨rfl, rfl, hI1⟩, by rw [e2] at *; simp only [sp_will]; first | rw [if_pos c_45, if_pos c_63] | rw [if_pos c_45, if_neg c_63] | rw [if_neg c_45, if_pos c_63] | rw [if_neg c_45, if_neg c_63]⟩)
    · refine b_iconst rfl ?_
      refine b_goto rfl ?_
      refine b_iload rfl rfl ?_
      refine b_mmax rfl rfl (by decide) (Nat.le_of_ble_eq_true rfl) ?_
      exact b_ireturn rfl trivial (⟨⟨rfl, rfl, hI1⟩, by rw [e2] at *; simp only [sp_will]; first | rw [if_pos c_45, if_pos c_63] | rw [if_pos c_45, if_neg c_63] | rw [if_neg c_45, if_pos c_63] | rw [if_neg c_45, if_neg c_63]⟩)
  · refine b_iconst rfl ?_
    refine b_iload rfl rfl ?_
    refine b_imul rfl ?_
    refine b_goto rfl ?_
    refine b_isub rfl ?_
    refine b_istore rfl (Nat.le_of_ble_eq_true rfl) ?_
    refine b_iload rfl rfl ?_
    refine b_iconst rfl ?_
    refine b_icmp_ne rfl (fun c_63 => ?_) (fun c_63 => ?_)
    · refine b_iconst rfl ?_
      refine b_iload rfl rfl ?_
      refine b_mmax rfl rfl (by decide) (Nat.le_of_ble_eq_true rfl) ?_
      exact b_ireturn rfl trivial (⟨⟨rfl, rfl, hI1⟩, by rw [e2] at *; simp only [sp_will]; first | rw [if_pos c_45, if_pos c_63] | rw [if_pos c_45, if_neg c_63] | rw [if_neg c_45, if_pos c_63] | rw [if_neg c_45, if_neg c_63]⟩)
    · refine b_iconst rfl ?_
      refine b_goto rfl ?_
      refine b_iload rfl rfl ?_
      refine b_mmax rfl rfl (by decide) (Nat.le_of_ble_eq_true rfl) ?_
      exact b_ireturn rfl trivial (⟨⟨rfl, rfl, hI1⟩, by rw [e2] at *; simp only [sp_will]; first | rw [if_pos c_45, if_pos c_63] | rw [if_pos c_45, if_neg c_63] | rw [if_neg c_45, if_pos c_63] | rw [if_neg c_45, if_neg c_63]⟩)
/-- who lies somewhere is one of sixteen sets -/
theorem sp_lyingAt_in (pl : Nat → Int32) (k : Int32) (np : Nat) (h : np ≤ 4) : ∃ i : Fin 16, sp_lyingAt pl k np = nI i := by
  have key : ∀ b0 b1 b2 b3 : Bool, ∀ n : Fin 5, ∃ i : Fin 16, sp_up (fun p s => if (if p = 0 then b0 else if p = 1 then b1 else if p = 2 then b2 else b3) = true then s ||| ((1 : Int32) <<< (nI p &&& 31)) else s) (0 : Int32) n = nI i := by decide +kernel
  obtain ⟨i, hi⟩ := key (decide (pl 0 = k)) (decide (pl 1 = k)) (decide (pl 2 = k)) (decide (pl 3 = k)) ⟨np, by omega⟩
  refine ⟨i, ?_⟩
  rw [← hi]
  unfold sp_lyingAt
  refine sp_up_congr (fun p s hp => ?_)
  rcases (show p = 0 ∨ p = 1 ∨ p = 2 ∨ p = 3 by omega) with rfl | rfl | rfl | rfl <;> simp
theorem bc_lying (pl : Nat → Int32) (k : Int32) (np : Nat) (h : np ≤ 4) : bc_f (sp_lyingAt pl k np) = sp_pop (sp_lyingAt pl k np) := by
  obtain ⟨i, hi⟩ := sp_lyingAt_in pl k np h
  rw [hi]
  exact bc_small ⟨i, by omega⟩
/-- a State: wills, places, shifts -/
abbrev sp_S3 : Type := (Nat → Int32) × (Nat → Int32) × (Nat → Int32)
def sp_others (pl : Nat → Int32) (k np : Nat) : Int32 := sp_pop (sp_lyingAt pl (nI k) np)
/-- the will of p behind a shift to k -/
def sp_gw (kd hd : Nat → Int32) (lf : Int32 → Int32 → Int32 → Int32 → Int32) (fm : Int32) (np : Nat) (S : sp_S3) (p k : Nat) : Int32 := sp_will kd hd lf fm k (S.1 p) (S.2.2 p) (sp_others S.2.1 k np)
abbrev sp_gf (kd hd : Nat → Int32) (lf : Int32 → Int32 → Int32 → Int32 → Int32) (fm : Int32) (np : Nat) (S : sp_S3) (p k : Nat) : Prop := sp_fall kd hd fm k (sp_gw kd hd lf fm np S p k)
def sp_go (kd hd : Nat → Int32) (lf : Int32 → Int32 → Int32 → Int32 → Int32) (fm : Int32) (np : Nat) (S : sp_S3) (p k : Nat) : sp_S3 :=
  (va_up S.1 p (sp_gw kd hd lf fm np S p k), va_up S.2.1 p (if sp_gf kd hd lf fm np S p k then -1 else nI k), va_up S.2.2 p (S.2.2 p + 1))
abbrev hs_S3 (I : Nat → Nat → Int32) (a : Nat) : sp_S3 := (I (a + 2), I (a + 3), I (a + 4))
/-- what a shift may write in -/
abbrev hs_w (a t b : Nat) : Prop := b = a + 2 ∨ b = a + 3 ∨ b = a + 4 ∨ b = t + 9 ∨ b = t + 10
theorem q_State_go {a t sz np p k : Nat} (ha : hs_St R a) (ht : hs_Net R t) (hc : hs_code I t sz) (hnp : I a 4 = nI np) (hn4 : np ≤ 4) (hp : p < 4) (hk : k < 8) : hn_F 4 hm_State_go [.ref a, .ref t, .int (nI p), .int (nI k)] (I, J, R) (fun r D' => hs_fr I J R D' (hs_w a t) ∧ hs_S3 D'.1 a = sp_go (I (t + 2)) (I (t + 3)) (hs_lf I t sz) (I a 6) np (hs_S3 I a) p k ∧ r = some (.int (if sp_gf (I (t + 2)) (I (t + 3)) (hs_lf I t sz) (I a 6) np (hs_S3 I a) p k then 1 else 0))) := by
  have ha0 := ha
  have ht0 := ht
  obtain ⟨ha5, k0, k1, k2, k3, k4, r0, r1, r2, r3⟩ := ha
  obtain ⟨ht5, n0, n1, n2, n3, n4, n5, n6, n7, n8, n9, n10, s1, s2, s3, s4, s5, s7, s8, l0, l2, l6, l7⟩ := ht
  refine hn_F_of _ hk_State_go rfl (Nat.le_of_ble_eq_true rfl) ?_
  have hco := bc_lying (I (a + 3)) (nI k) np hn4
  refine b_aload_n rfl rfl ?_
  refine b_iload_n rfl rfl ?_
  refine b_callV rfl rfl hk_State_lyingAt rfl rfl rfl (by first | rfl | assumption) rfl (Nat.le_of_ble_eq_true rfl) (q_State_lyingAt ha0 hnp hn4) (Nat.le_of_ble_eq_true rfl) (fun r_2 D_2 q_2 => ?_)
  obtain ⟨rfl, rfl⟩ := q_2
  refine b_callS rfl rfl hk_JI_bitCount rfl rfl rfl (Nat.le_of_ble_eq_true rfl) (q_bitCount) (Nat.le_of_ble_eq_true rfl) (fun r_5 D_5 q_5 => ?_)
  obtain ⟨rfl, rfl⟩ := q_5
  rw [hco]
  refine b_istore rfl (Nat.le_of_ble_eq_true rfl) ?_
  refine b_aload_n rfl rfl ?_
  refine b_iload_n rfl rfl ?_
  refine b_aload_n rfl rfl ?_
  refine b_getR rfl (by first | rfl | assumption) rfl (by assumption) ?_
  refine b_iload_n rfl rfl ?_
  refine b_iaload rfl (by first | rfl | assumption) (by first | assumption | exact nI_toInt (by omega) | exact hi_l0 | exact hi_l1 | exact hi_l2 | exact hi_l3 | exact hi_l4 | exact hi_l5 | exact hi_l6) (by omega) ?_
  refine b_aload_n rfl rfl ?_
  refine b_getR rfl (by first | rfl | assumption) rfl (by assumption) ?_
  refine b_iload_n rfl rfl ?_
  refine b_iaload rfl (by first | rfl | assumption) (by first | assumption | exact nI_toInt (by omega) | exact hi_l0 | exact hi_l1 | exact hi_l2 | exact hi_l3 | exact hi_l4 | exact hi_l5 | exact hi_l6) (by omega) ?_
  refine b_iload rfl rfl ?_
  refine b_aload_n rfl rfl ?_
  refine b_getI rfl (by first | rfl | assumption) rfl ?_
  refine b_callV rfl rfl hk_Net_willAt rfl rfl rfl (by first | rfl | assumption) rfl (Nat.le_of_ble_eq_true rfl) (q_Net_willAt ht0 hc hk) (Nat.le_of_ble_eq_true rfl) (fun r_30 D_30 q_30 => ?_)
  obtain ⟨hf, hq⟩ := q_30
  obtain ⟨I1, rfl, hI1⟩ := hf.out
  obtain ⟨w, hw⟩ : ∃ w, w = sp_will (I (t + 2)) (I (t + 3)) (hs_lf I t sz) (I a 6) k (I (a + 2) p) (I (a + 4) p) (sp_pop (sp_lyingAt (I (a + 3)) (nI k) np)) := ⟨_, rfl⟩
  rw [← hw] at hq
  subst hq
  have e2 := hI1 (a + 2) (by omega)
  have e3 := hI1 (a + 3) (by omega)
  have e4 := hI1 (a + 4) (by omega)
  have eT2 := hI1 (t + 2) (by omega)
  have eT3 := hI1 (t + 3) (by omega)
  have eA := hI1 a (by omega)
  refine b_istore rfl (Nat.le_of_ble_eq_true rfl) ?_
  refine b_aload_n rfl rfl ?_
  refine b_getR rfl (by first | rfl | assumption) rfl (by assumption) ?_
  refine b_iload_n rfl rfl ?_
  refine b_iload rfl rfl ?_
  refine b_iastore rfl (by first | rfl | assumption) (by first | assumption | exact nI_toInt (by omega) | exact hi_l0 | exact hi_l1 | exact hi_l2 | exact hi_l3 | exact hi_l4 | exact hi_l5 | exact hi_l6) (by omega) ?_
  refine b_aload_n rfl rfl ?_
  refine b_getR rfl (by first | rfl | assumption) rfl (by assumption) ?_
  refine b_iload_n rfl rfl ?_
  refine b_dup2_11 rfl rfl rfl ?_
  refine b_iaload rfl (by first | rfl | assumption) (by first | assumption | exact nI_toInt (by omega) | exact hi_l0 | exact hi_l1 | exact hi_l2 | exact hi_l3 | exact hi_l4 | exact hi_l5 | exact hi_l6) (by omega) ?_
  refine b_iconst rfl ?_
  refine b_iadd rfl ?_
  refine b_iastore rfl (by first | rfl | assumption) (by first | assumption | exact nI_toInt (by omega) | exact hi_l0 | exact hi_l1 | exact hi_l2 | exact hi_l3 | exact hi_l4 | exact hi_l5 | exact hi_l6) (by omega) ?_
  obtain ⟨I2, hI2⟩ : ∃ z, z = hn_u (hn_u I1 (a + 2) p w) (a + 4) p (hn_u I1 (a + 2) p w (a + 4) p + 1) := ⟨_, rfl⟩
  rw [← hI2]
  have g : ∀ b, ¬ b = a + 2 → ¬ b = a + 4 → I2 b = I1 b := fun b h1 h2 => by rw [hI2, hn_u_ne _ _ _ h2, hn_u_ne _ _ _ h1]
  have f2 : I2 (t + 2) = I (t + 2) := by rw [g _ (by omega) (by omega)]; exact eT2
  have f3 : I2 (t + 3) = I (t + 3) := by rw [g _ (by omega) (by omega)]; exact eT3
  have fA : I2 a = I a := by rw [g _ (by omega) (by omega)]; exact eA
  have x2 : I2 (a + 2) = va_up (I (a + 2)) p w := by rw [hI2, hn_u_ne _ _ _ (by omega), hn_u_eq, e2]
  have x3 : I2 (a + 3) = I (a + 3) := by rw [g _ (by omega) (by omega)]; exact e3
  have x4 : I2 (a + 4) = va_up (I (a + 4)) p (I (a + 4) p + 1) := by rw [hI2, hn_u_eq, hn_u_ne _ _ _ (by omega), e4]
  refine b_aload_n rfl rfl ?_
  refine b_iload_n rfl rfl ?_
  refine b_iload rfl rfl ?_
  refine b_aload_n rfl rfl ?_
  refine b_getI rfl (by first | rfl | assumption) rfl ?_
  refine b_callV rfl rfl hk_Net_letsThrough rfl rfl rfl (by first | rfl | assumption) rfl (Nat.le_of_ble_eq_true rfl) (q_Net_letsThrough (wl := w) ht0 hk) (Nat.le_of_ble_eq_true rfl) (fun r_61 D_61 q_61 => ?_)
  obtain ⟨rfl, hq⟩ := q_61
  rw [f2, f3, fA] at hq
  subst hq
  have hgw : sp_gw (I (t + 2)) (I (t + 3)) (hs_lf I t sz) (I a 6) np (hs_S3 I a) p k = w := by rw [hw]; rfl
  have fin : ∀ x : Int32, x = (if sp_fall (I (t + 2)) (I (t + 3)) (I a 6) k w then -1 else nI k) → hs_fr I J R (hn_u I2 (a + 3) p x, J, R) (hs_w a t) ∧ hs_S3 (hn_u I2 (a + 3) p x) a = sp_go (I (t + 2)) (I (t + 3)) (hs_lf I t sz) (I a 6) np (hs_S3 I a) p k ∧ some (Value.int (if sp_fall (I (t + 2)) (I (t + 3)) (I a 6) k w then 1 else 0)) = some (Value.int (if sp_gf (I (t + 2)) (I (t + 3)) (hs_lf I t sz) (I a 6) np (hs_S3 I a) p k then 1 else 0)) := by
    intro x hx
    refine ⟨⟨rfl, rfl, fun b hb => ?_⟩, ?_, ?_⟩
    · show hn_u I2 (a + 3) p x b = I b
      rw [hn_u_ne _ _ _ (fun e => hb (by omega)), g b (fun e => hb (by omega)) (fun e => hb (by omega))]
      exact hI1 b (fun e => hb (by omega))
    · simp only [hs_S3, sp_go, sp_gf, hgw]
      rw [hn_u_ne _ _ _ (show ¬ a + 2 = a + 3 by omega), hn_u_eq, hn_u_ne _ _ _ (show ¬ a + 4 = a + 3 by omega), x2, x3, x4, hx]
    · simp only [sp_gf, hgw]
  refine b_istore rfl (Nat.le_of_ble_eq_true rfl) ?_
  refine b_aload_n rfl rfl ?_
  refine b_getR rfl (by first | rfl | assumption) rfl (by assumption) ?_
  refine b_iload_n rfl rfl ?_
  refine b_iload rfl rfl ?_
  refine b_if_eq rfl (fun c_73 => ?_) (fun c_73 => ?_)
  · refine b_iload_n rfl rfl ?_
    refine b_iastore rfl (by first | rfl | assumption) (by first | assumption | exact nI_toInt (by omega) | exact hi_l0 | exact hi_l1 | exact hi_l2 | exact hi_l3 | exact hi_l4 | exact hi_l5 | exact hi_l6) (by omega) ?_
    refine b_iload rfl rfl ?_
    exact b_ireturn rfl (if01 _) (by first | exact fin _ (by rw [if_neg (if01_z.mp c_73)]) | exact fin _ (by rw [if_pos (if01_n c_73)]))
  · refine b_iconst rfl ?_
    refine b_goto rfl ?_
    refine b_iastore rfl (by first | rfl | assumption) (by first | assumption | exact nI_toInt (by omega) | exact hi_l0 | exact hi_l1 | exact hi_l2 | exact hi_l3 | exact hi_l4 | exact hi_l5 | exact hi_l6) (by omega) ?_
    refine b_iload rfl rfl ?_
    exact b_ireturn rfl (if01 _) (by first | exact fin _ (by rw [if_neg (if01_z.mp c_73)]) | exact fin _ (by rw [if_pos (if01_n c_73)]))
end HNgo
