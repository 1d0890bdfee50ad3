section HNseasons
variable {I I' : Nat → Nat → Int32} {J J' : Nat → Nat → Int64} {R : Nat → Nat → Option Nat} {t : Nat} {N : sp_N} {Q Q' S : sp_Q} {U : sp_U} {V : sp_V}
/-! long numbers -/
theorem hl_mul {x y : Int64} {a b : Int} (hx : x.toInt = a) (hy : y.toInt = b) (h1 : -9223372036854775808 ≤ a * b) (h2 : a * b < 9223372036854775808) : (x * y).toInt = a * b := by
  rw [Int64.toInt_mul, hx, hy]
  exact Int.bmod_eq_of_le (by omega) (by omega)
theorem hl_add {x y : Int64} {a b : Int} (hx : x.toInt = a) (hy : y.toInt = b) (h1 : -9223372036854775808 ≤ a + b) (h2 : a + b < 9223372036854775808) : (x + y).toInt = a + b := by
  rw [Int64.toInt_add, hx, hy]
  exact Int.bmod_eq_of_le (by omega) (by omega)
theorem hl_sub {x y : Int64} {a b : Int} (hx : x.toInt = a) (hy : y.toInt = b) (h1 : -9223372036854775808 ≤ a - b) (h2 : a - b < 9223372036854775808) : (x - y).toInt = a - b := by
  rw [Int64.toInt_sub, hx, hy]
  exact Int.bmod_eq_of_le (by omega) (by omega)
theorem hl_div {x y : Int64} {a b : Int} (hx : x.toInt = a) (hy : y.toInt = b) (h1 : 0 ≤ a) (h2 : a < 9223372036854775808) (hb : 0 < b) : (x / y).toInt = a / b := by
  rw [Int64.toInt_div, hx, hy, Int.tdiv_eq_ediv_of_nonneg h1]
  have h3 : 0 ≤ a / b := Int.ediv_nonneg h1 (by omega)
  have h4 : a / b ≤ a := Int.ediv_le_self b h1
  generalize a / b = q at h3 h4 ⊢
  exact Int.bmod_eq_of_le (by omega) (by omega)
/-- the remainder as the machine has it -/
theorem hl_rem {x y : Int64} {a b : Int} (hx : x.toInt = a) (hy : y.toInt = b) (h1 : 0 ≤ a) (h2 : a < 9223372036854775808) (hb : 0 < b) (hb2 : b < 9223372036854775808) : (x - x / y * y).toInt = a % b := by
  have hd := hl_div hx hy h1 h2 hb
  have e := Int.mul_ediv_add_emod a b
  have m0 := Int.emod_nonneg a (show b ≠ 0 by omega)
  have m1 := Int.emod_lt_of_pos a hb
  have c : a / b * b = b * (a / b) := Int.mul_comm _ _
  have p0 : 0 ≤ a / b * b := by rw [c]; exact Int.mul_nonneg (by omega) (Int.ediv_nonneg h1 (by omega))
  have hm := hl_mul hd hy (by omega) (by omega)
  rw [hl_sub hx hm (by omega) (by omega)]
  omega
theorem hl_int {x : Int64} {n : Nat} (h : x.toInt = (n : Int)) (hn : n < 2147483648) : x.toInt32 = nI n := by
  refine hi_nI ?_
  rw [Int64.toInt_toInt32, h]
  exact Int.bmod_eq_of_le (by omega) (by omega)
/-! a draw -/
def dr_n (g : Int64) : Int64 := (g * 1103515245 + 12345) - (g * 1103515245 + 12345) / 2147483648 * 2147483648
def dr_v (g : Int64) (m : Int32) : Int32 := (g / 65536 - g / 65536 / m.toInt64 * m.toInt64).toInt32
abbrev dr_in (g : Int64) : Prop := 0 ≤ g.toInt ∧ g.toInt < 2147483648
theorem dr_n_in {g : Int64} (h : dr_in g) : dr_in (dr_n g) := by
  obtain ⟨h0, h1⟩ := h
  have e1 : (1103515245 : Int64).toInt = 1103515245 := by decide
  have e2 : (12345 : Int64).toInt = 12345 := by decide
  have e3 : (2147483648 : Int64).toInt = 2147483648 := by decide
  obtain ⟨a, ha⟩ : ∃ a, a = g.toInt := ⟨_, rfl⟩
  rw [← ha] at h0 h1
  have x1 := hl_mul ha.symm e1 (by omega) (by omega)
  have x2 := hl_add x1 e2 (by omega) (by omega)
  have x3 := hl_rem x2 e3 (by omega) (by omega) (by omega) (by omega)
  unfold dr_in dr_n
  rw [x3]
  omega
theorem dr_v_in {g : Int64} {m : Nat} (h : dr_in g) (h1 : 1 ≤ m) (h8 : m ≤ 8) : ∃ j, j < m ∧ dr_v g (nI m) = nI j := by
  obtain ⟨h0, h2⟩ := h
  have e1 : (65536 : Int64).toInt = 65536 := by decide
  have e2 : (nI m).toInt64.toInt = (m : Int) := by rw [Int32.toInt_toInt64]; exact nI_toInt (by omega)
  obtain ⟨a, ha⟩ : ∃ a, a = g.toInt := ⟨_, rfl⟩
  rw [← ha] at h0 h2
  have x1 := hl_div ha.symm e1 (by omega) (by omega) (by omega)
  have x2 := hl_rem x1 e2 (by omega) (by omega) (by omega) (by omega)
  have m0 := Int.emod_nonneg (a / 65536) (show (m : Int) ≠ 0 by omega)
  have m1 := Int.emod_lt_of_pos (a / 65536) (show (0 : Int) < (m : Int) by omega)
  generalize a / 65536 % (m : Int) = q at x2 m0 m1
  refine ⟨q.toNat, by omega, hl_int (n := q.toNat) ?_ (by omega)⟩
  rw [x2]; omega
theorem dr_5 {g : Int64} (h : dr_in g) : ∃ j, j < 5 ∧ dr_v g 5 = nI j := dr_v_in (m := 5) h (by omega) (by omega)
theorem q_X_draw {m : Int32} (hm : ¬ m < 1) : hn_F 0 hm_X_draw [.ref 0, .int m] (I, J, R) (fun r D' => D' = (I, hn_u J 0 19 (dr_n (J 0 19)), R) ∧ r = some (.int (dr_v (dr_n (J 0 19)) m))) := by
  have hm0 : ¬ m.toInt64 = 0 := by
    intro e
    have e1 : m.toInt64.toInt = 0 := by rw [e]; decide
    rw [Int32.toInt_toInt64] at e1
    exact hm ((hi_lt e1 hi_t1).mpr (by omega))
  refine hn_F_of _ hk_X_draw rfl (Nat.le_of_ble_eq_true rfl) ?_
  refine b_aload_n rfl rfl ?_
  refine b_aload_n rfl rfl ?_
  refine b_getL rfl (by first | rfl | assumption) rfl ?_
  refine b_ldc2_w rfl ?_
  refine b_lmul rfl ?_
  refine b_ldc2_w rfl ?_
  refine b_ladd rfl ?_
  refine b_ldc2_w rfl ?_
  refine b_lrem rfl (by decide) ?_
  refine b_putL rfl (by first | rfl | assumption) rfl rfl (fun _ => ⟨rfl, rfl⟩) ?_
  refine b_iload_n rfl rfl ?_
  refine b_iconst rfl ?_
  refine b_icmp_ge rfl (fun c_22 => ?_) (fun c_22 => ?_)
  · refine b_aload_n rfl rfl ?_
    refine b_getL rfl (by first | rfl | assumption) rfl ?_
    rw [hn_u_eq, va_up, if_pos rfl]
    refine b_ldc2_w rfl ?_
    refine b_ldiv rfl (by decide) ?_
    refine b_iload_n rfl rfl ?_
    refine b_i2l rfl ?_
    refine b_lrem rfl hm0 ?_
    refine b_l2i rfl ?_
    exact b_ireturn rfl trivial (⟨rfl, rfl⟩)
  · exact absurd (Int32.not_le.mp c_22) hm
theorem q_M_draw {m : Int32} (hm : ¬ m.toInt64 = 0) : hn_F 0 hm_M_draw [.ref 188, .int m] (I, J, R) (fun r D' => D' = (I, hn_u J 188 33 (dr_n (J 188 33)), R) ∧ r = some (.int (dr_v (dr_n (J 188 33)) m))) := by
  refine hn_F_of _ hk_M_draw rfl (Nat.le_of_ble_eq_true rfl) ?_
  refine b_aload_n rfl rfl ?_
  refine b_aload_n rfl rfl ?_
  refine b_getL rfl (by first | rfl | assumption) rfl ?_
  refine b_ldc2_w rfl ?_
  refine b_lmul rfl ?_
  refine b_ldc2_w rfl ?_
  refine b_ladd rfl ?_
  refine b_ldc2_w rfl ?_
  refine b_lrem rfl (by decide) ?_
  refine b_putL rfl (by first | rfl | assumption) rfl rfl (fun _ => ⟨rfl, rfl⟩) ?_
  refine b_aload_n rfl rfl ?_
  refine b_getL rfl (by first | rfl | assumption) rfl ?_
  rw [hn_u_eq, va_up, if_pos rfl]
  refine b_ldc2_w rfl ?_
  refine b_ldiv rfl (by decide) ?_
  refine b_iload_n rfl rfl ?_
  refine b_i2l rfl ?_
  refine b_lrem rfl hm ?_
  refine b_l2i rfl ?_
  exact b_ireturn rfl trivial (⟨rfl, rfl⟩)
/-! what a draw does -/
def dd_q (N : sp_N) (q : sp_Q) (p k : Nat) (a : Int32) : sp_Q × Int32 :=
  if a = 0 then (sp_put q p (-1), 0) else if a = 1 ∧ qP q p = -1 then (sp_put q p (nI k), 0)
  else if (a = 2 ∨ a = 3) ∧ sp_cn q p k then (sp_sh N 0 q p k, if sp_shf N 0 q p k then 1 else 0) else (q, 0)
def dd (N : sp_N) (q : sp_Q) (g : Int64) : sp_Q × Int32 := dd_q N q (dr_v (dr_n g) (nI N.2.1)).toNatClampNeg (dr_v (dr_n (dr_n g)) (nI N.1)).toNatClampNeg (dr_v (dr_n (dr_n (dr_n g))) 5)
theorem dd_w {q : sp_Q} {g : Int64} (hg : dr_in g) (h8 : N.1 ≤ 8) (h4 : N.2.1 ≤ 4) (hn : 1 ≤ N.1) (hp : 1 ≤ N.2.1) (hw : hs_Qw N.1 N.2.1 q) : hs_Qw N.1 N.2.1 (dd N q g).1 := by
  obtain ⟨p, hp1, e1⟩ := dr_v_in (dr_n_in hg) hp (by omega)
  obtain ⟨k, hk1, e2⟩ := dr_v_in (dr_n_in (dr_n_in hg)) hn h8
  unfold dd
  rw [e1, e2, nI_clamp (by omega), nI_clamp (by omega)]
  unfold dd_q
  split
  · exact sp_put_w hw hp1 h4 (Or.inl rfl)
  · split
    · exact sp_put_w hw hp1 h4 (Or.inr ⟨k, hk1, rfl⟩)
    · split
      · exact sp_sh_w hw hp1 hk1 h4
      · exact hw
theorem ge_1 {n : Nat} (h : 1 ≤ n) (h8 : n ≤ 8) : ¬ nI n < 1 := fun z => by
  have := (hi_lt (nI_toInt (n := n) (by omega)) hi_t1).mp z
  omega
theorem ne_0L {n : Nat} (h : 1 ≤ n) (h8 : n ≤ 8) : ¬ (nI n).toInt64 = 0 := by
  intro e
  have e1 : (nI n).toInt64.toInt = 0 := by rw [e]; decide
  rw [Int32.toInt_toInt64, nI_toInt (by omega)] at e1
  omega
abbrev hs_j0 (J J' : Nat → Nat → Int64) : Prop := ∀ b, b ≠ 0 → J' b = J b
theorem q_X_falls_d {q : sp_Q} (hA : hs_A I R t N Q) (h : hs_xt t N I q 0 I') (hn : 0 < N.2.1 → 1 ≤ N.1) (hg : dr_in (J' 0 19)) : hn_F 5 hm_X_fallsByDraws [.ref 0] (I', J', R) (fun r D' => (∃ I2 J2, D' = (I2, J2, R) ∧ hs_xt t N I (if N.2.1 = 0 then (q, 0) else dd N q (J' 0 19)).1 0 I2 ∧ hs_j0 J' J2 ∧ J2 0 19 = (if N.2.1 = 0 then J' 0 19 else dr_n (dr_n (dr_n (J' 0 19))))) ∧ r = some (.int (if N.2.1 = 0 then (q, 0) else dd N q (J' 0 19)).2)) := by
  have hA0 := hA
  obtain ⟨hR, r2, ht, hN, hX, hw, hz, hAw⟩ := hA
  have hN0 := hN
  have hX0 := hX
  have hw0 := hw
  obtain ⟨n0, n8, n4, nk, nh, na, hc, ncd⟩ := hN
  obtain ⟨x1, x2, x3, x4, x5, x6, x7⟩ := hX
  obtain ⟨r6, r7, r8, r11, r12, r13, r14, r15, r16, r17, r18⟩ := hs_x0 hR
  have hSt := hs_St_of hR (show 44 ∈ hs_sc by decide)
  have hNt := hs_Net_of hR ht
  obtain ⟨_, sk0, sk1, sk2, sk3, sk4, g0, g1, g2, g3⟩ := id hSt
  obtain ⟨tt5, tn0, tn1, tn2, tn3, tn4, tn5, tn6, tn7, tn8, tn9, tn10, ts1, ts2, ts3, ts4, ts5, ts7, ts8, tl0, tl2, tl6, tl7⟩ := id hNt
  have hSt9 := hs_St_of hR (show 49 ∈ hs_sc by decide)
  obtain ⟨_, u0, u1, u2, u3, u4, y0, y1, y2, y3⟩ := id hSt9
  obtain ⟨z1, z2, z3, z4, z5, z6, z7⟩ := id h.2.1
  have e00 : I' t 0 = nI N.1 := by rw [h.1 t (fun e => by unfold hs_xs at e; omega)]; exact n0
  refine hn_F_of _ hk_X_fallsByDraws rfl (Nat.le_of_ble_eq_true rfl) ?_
  by_cases hp0 : N.2.1 = 0
  · rw [if_pos hp0, if_pos hp0]
    refine b_aload_n rfl rfl ?_
    refine b_getR rfl (by first | rfl | assumption) rfl (by assumption) ?_
    refine b_getI rfl (by first | rfl | assumption) rfl ?_
    rw [z5, hp0]
    refine b_if_ne rfl (fun c_7 => ?_) (fun c_7 => ?_)
    · exact absurd rfl c_7
    · refine b_iconst rfl ?_
      exact b_ireturn rfl (by first | exact Or.inl rfl | exact Or.inr rfl | exact trivial) (⟨⟨I', J', rfl, h, fun _ _ => rfl, rfl⟩, rfl⟩)
  · rw [if_neg hp0, if_neg hp0]
    have hn := hn (by omega)
    have d1 := dr_n_in hg
    have d2 := dr_n_in d1
    have d3 := dr_n_in d2
    obtain ⟨p, hp, ep⟩ := dr_v_in d1 (show 1 ≤ N.2.1 by omega) (by omega)
    obtain ⟨k, hk, ek⟩ := dr_v_in d2 hn n8
    obtain ⟨a, ha, ea⟩ := dr_5 d3
    obtain ⟨P, hPd⟩ : ∃ P : Option Value → hnD → Prop, P = (fun r D' => (∃ I2 J2, D' = (I2, J2, R) ∧ hs_xt t N I (dd N q (J' 0 19)).1 0 I2 ∧ hs_j0 J' J2 ∧ J2 0 19 = dr_n (dr_n (dr_n (J' 0 19)))) ∧ r = some (.int (dd N q (J' 0 19)).2)) := ⟨_, rfl⟩
    rw [← hPd]
    have L42 : ∀ J2, hs_j0 J' J2 → J2 0 19 = dr_n (dr_n (dr_n (J' 0 19))) → hn_B 5 hm_X_fallsByDraws P 42 [.ref 0, .int (nI p), .int (nI k), .int (nI a)] [] (I', J2, R) := by
      intro J2 hj hj2
      have hPd : P = (fun r D' => (∃ I2 J2, D' = (I2, J2, R) ∧ hs_xt t N I (dd_q N q p k (nI a)).1 0 I2 ∧ hs_j0 J' J2 ∧ J2 0 19 = dr_n (dr_n (dr_n (J' 0 19)))) ∧ r = some (.int (dd_q N q p k (nI a)).2)) := by
        rw [hPd]; unfold dd; rw [ep, ek, ea, nI_clamp (by omega), nI_clamp (by omega)]
      have hpl8 : I' (49 + 3) p = -1 ∨ ∃ q, q < 8 ∧ I' (49 + 3) p = nI q := by rw [P3_p z3 (by omega)]; exact sp_pl8 h.2.2.1 n8 (by omega)
      by_cases a0 : a = 0
      · subst a0
        rw [show dd_q N q p k (nI 0) = (sp_put q p (-1), 0) from if_pos rfl] at hPd
        refine b_iload_n rfl rfl ?_
        refine b_if_ne rfl (fun c_43 => ?_) (fun c_43 => ?_)
        · exact absurd rfl c_43
        · refine b_aload_n rfl rfl ?_
          refine b_getR rfl (by first | rfl | assumption) rfl (by assumption) ?_
          refine b_getR rfl (by first | rfl | assumption) rfl (by assumption) ?_
          refine b_iload_n rfl rfl ?_
          refine b_iconst rfl ?_
          refine b_iastore rfl (by first | rfl | assumption) (by first | assumption | exact nI_toInt (by omega) | exact hi_l0 | exact hi_l1 | exact hi_l2 | exact hi_l3 | exact hi_l4 | exact hi_l5 | exact hi_l6) (by omega) ?_
          refine b_goto rfl ?_
          refine b_iconst rfl ?_
          exact b_ireturn rfl (by first | exact Or.inl rfl | exact Or.inr rfl | exact trivial) ((by rw [hPd]; exact ⟨⟨_, J2, rfl, hs_xt_put h hp n4 (Or.inl rfl), hj, hj2⟩, rfl⟩))
      · have b0 : ¬ nI a = 0 := fun e => a0 ((hi_nIe (k := 0) (by omega) (by omega)).mp e)
        by_cases h1 : a = 1 ∧ qP q p = -1
        · obtain ⟨rfl, h2⟩ := h1
          rw [show dd_q N q p k (nI 1) = (sp_put q p (nI k), 0) by unfold dd_q; rw [if_neg b0, if_pos ⟨rfl, h2⟩]] at hPd
          refine b_iload_n rfl rfl ?_
          refine b_if_ne rfl (fun c_43 => ?_) (fun c_43 => ?_)
          · refine b_iload_n rfl rfl ?_
            refine b_iconst rfl ?_
            refine b_icmp_ne rfl (fun c_61 => ?_) (fun c_61 => ?_)
            · exact absurd rfl c_61
            · refine b_aload_n rfl rfl ?_
              refine b_getR rfl (by first | rfl | assumption) rfl (by assumption) ?_
              refine b_iload_n rfl rfl ?_
              refine b_callV rfl rfl hk_State_isLying rfl rfl rfl (by first | rfl | assumption) rfl (Nat.le_of_ble_eq_true rfl) (q_State_isLying hSt9 (show p < 4 by omega)) (Nat.le_of_ble_eq_true rfl) (fun r_69 D_69 q_69 => ?_)
              obtain ⟨rfl, hq⟩ := q_69
              rw [P3_p z3 (by omega), if_pos h2] at hq
              subst hq
              refine b_if_ne rfl (fun c_72 => ?_) (fun c_72 => ?_)
              · exact absurd rfl c_72
              · refine b_aload_n rfl rfl ?_
                refine b_getR rfl (by first | rfl | assumption) rfl (by assumption) ?_
                refine b_getR rfl (by first | rfl | assumption) rfl (by assumption) ?_
                refine b_iload_n rfl rfl ?_
                refine b_iload_n rfl rfl ?_
                refine b_iastore rfl (by first | rfl | assumption) (by first | assumption | exact nI_toInt (by omega) | exact hi_l0 | exact hi_l1 | exact hi_l2 | exact hi_l3 | exact hi_l4 | exact hi_l5 | exact hi_l6) (by omega) ?_
                refine b_goto rfl ?_
                refine b_iconst rfl ?_
                exact b_ireturn rfl (by first | exact Or.inl rfl | exact Or.inr rfl | exact trivial) ((by rw [hPd]; exact ⟨⟨_, J2, rfl, hs_xt_put h hp n4 (Or.inr ⟨k, hk, rfl⟩), hj, hj2⟩, rfl⟩))
          · exact absurd c_43 b0
        · have L88 : hn_B 5 hm_X_fallsByDraws P 88 [.ref 0, .int (nI p), .int (nI k), .int (nI a)] [] (I', J2, R) := by
            have b1 : ¬ (nI a = 1 ∧ qP q p = -1) := fun e => h1 ⟨(hi_nIe (k := 1) (by omega) (by omega)).mp e.1, e.2⟩
            by_cases h3 : (a = 2 ∨ a = 3) ∧ sp_cn q p k
            · have b3 : (nI a = 2 ∨ nI a = 3) ∧ sp_cn q p k := ⟨by rcases h3.1 with rfl | rfl; exact Or.inl rfl; exact Or.inr rfl, h3.2⟩
              rw [show dd_q N q p k (nI a) = (sp_sh N 0 q p k, if sp_shf N 0 q p k then 1 else 0) by unfold dd_q; rw [if_neg b0, if_neg b1, if_pos b3]] at hPd
              refine b_iload_n rfl rfl ?_
              refine b_iconst rfl ?_
              refine b_icmp_eq rfl (fun c_90 => ?_) (fun c_90 => ?_)
              · refine b_aload_n rfl rfl ?_
                refine b_getR rfl (by first | rfl | assumption) rfl (by assumption) ?_
                refine b_iload_n rfl rfl ?_
                refine b_iload_n rfl rfl ?_
                refine b_callV rfl rfl hk_State_canGo rfl rfl rfl (by first | rfl | assumption) rfl (Nat.le_of_ble_eq_true rfl) (q_State_canGo hSt9 (show p < 4 by omega) hpl8) (Nat.le_of_ble_eq_true rfl) (fun r_104 D_104 q_104 => ?_)
                obtain ⟨rfl, hq⟩ := q_104
                rw [z1, z2, P3_p z3 (by omega), if_pos h3.2] at hq
                subst hq
                refine b_if_eq rfl (fun c_107 => ?_) (fun c_107 => ?_)
                · exact absurd c_107 (by decide)
                · refine b_aload_n rfl rfl ?_
                  refine b_getR rfl (by first | rfl | assumption) rfl (by assumption) ?_
                  refine b_aload_n rfl rfl ?_
                  refine b_getR rfl (by first | rfl | assumption) rfl (by assumption) ?_
                  refine b_iload_n rfl rfl ?_
                  refine b_iload_n rfl rfl ?_
                  refine b_callV rfl rfl hk_State_go rfl rfl rfl (by first | rfl | assumption) rfl (Nat.le_of_ble_eq_true rfl) (qx_tg hA0 h hp hk) (Nat.le_of_ble_eq_true rfl) (fun r_120 D_120 q_120 => ?_)
                  obtain ⟨⟨I2, rfl, h9⟩, rfl⟩ := q_120
                  exact b_ireturn rfl (if01 _) ((by rw [hPd]; exact ⟨⟨_, J2, rfl, h9, hj, hj2⟩, rfl⟩))
              · refine b_iload_n rfl rfl ?_
                refine b_iconst rfl ?_
                refine b_icmp_ne rfl (fun c_95 => ?_) (fun c_95 => ?_)
                · exact absurd (b3.1.resolve_left c_90) c_95
                · refine b_aload_n rfl rfl ?_
                  refine b_getR rfl (by first | rfl | assumption) rfl (by assumption) ?_
                  refine b_iload_n rfl rfl ?_
                  refine b_iload_n rfl rfl ?_
                  refine b_callV rfl rfl hk_State_canGo rfl rfl rfl (by first | rfl | assumption) rfl (Nat.le_of_ble_eq_true rfl) (q_State_canGo hSt9 (show p < 4 by omega) hpl8) (Nat.le_of_ble_eq_true rfl) (fun r_104 D_104 q_104 => ?_)
                  obtain ⟨rfl, hq⟩ := q_104
                  rw [z1, z2, P3_p z3 (by omega), if_pos h3.2] at hq
                  subst hq
                  refine b_if_eq rfl (fun c_107 => ?_) (fun c_107 => ?_)
                  · exact absurd c_107 (by decide)
                  · refine b_aload_n rfl rfl ?_
                    refine b_getR rfl (by first | rfl | assumption) rfl (by assumption) ?_
                    refine b_aload_n rfl rfl ?_
                    refine b_getR rfl (by first | rfl | assumption) rfl (by assumption) ?_
                    refine b_iload_n rfl rfl ?_
                    refine b_iload_n rfl rfl ?_
                    refine b_callV rfl rfl hk_State_go rfl rfl rfl (by first | rfl | assumption) rfl (Nat.le_of_ble_eq_true rfl) (qx_tg hA0 h hp hk) (Nat.le_of_ble_eq_true rfl) (fun r_120 D_120 q_120 => ?_)
                    obtain ⟨⟨I2, rfl, h9⟩, rfl⟩ := q_120
                    exact b_ireturn rfl (if01 _) ((by rw [hPd]; exact ⟨⟨_, J2, rfl, h9, hj, hj2⟩, rfl⟩))
            · have b3 : ¬ ((nI a = 2 ∨ nI a = 3) ∧ sp_cn q p k) := fun e => h3 ⟨by rcases e.1 with e1 | e1; exact Or.inl ((hi_nIe (k := 2) (by omega) (by omega)).mp e1); exact Or.inr ((hi_nIe (k := 3) (by omega) (by omega)).mp e1), e.2⟩
              rw [show dd_q N q p k (nI a) = (q, 0) by unfold dd_q; rw [if_neg b0, if_neg b1, if_neg b3]] at hPd
              by_cases hc : sp_cn q p k
              · refine b_iload_n rfl rfl ?_
                refine b_iconst rfl ?_
                refine b_icmp_eq rfl (fun c_90 => ?_) (fun c_90 => ?_)
                · exact absurd ⟨Or.inl c_90, hc⟩ b3
                · refine b_iload_n rfl rfl ?_
                  refine b_iconst rfl ?_
                  refine b_icmp_ne rfl (fun c_95 => ?_) (fun c_95 => ?_)
                  · refine b_iconst rfl ?_
                    exact b_ireturn rfl (by first | exact Or.inl rfl | exact Or.inr rfl | exact trivial) ((by rw [hPd]; exact ⟨⟨_, J2, rfl, h, hj, hj2⟩, rfl⟩))
                  · exact absurd ⟨Or.inr c_95, hc⟩ b3
              · refine b_iload_n rfl rfl ?_
                refine b_iconst rfl ?_
                refine b_icmp_eq rfl (fun c_90 => ?_) (fun c_90 => ?_)
                · refine b_aload_n rfl rfl ?_
                  refine b_getR rfl (by first | rfl | assumption) rfl (by assumption) ?_
                  refine b_iload_n rfl rfl ?_
                  refine b_iload_n rfl rfl ?_
                  refine b_callV rfl rfl hk_State_canGo rfl rfl rfl (by first | rfl | assumption) rfl (Nat.le_of_ble_eq_true rfl) (q_State_canGo hSt9 (show p < 4 by omega) hpl8) (Nat.le_of_ble_eq_true rfl) (fun r_104 D_104 q_104 => ?_)
                  obtain ⟨rfl, hq⟩ := q_104
                  rw [z1, z2, P3_p z3 (by omega), if_neg hc] at hq
                  subst hq
                  refine b_if_eq rfl (fun c_107 => ?_) (fun c_107 => ?_)
                  · refine b_iconst rfl ?_
                    exact b_ireturn rfl (by first | exact Or.inl rfl | exact Or.inr rfl | exact trivial) ((by rw [hPd]; exact ⟨⟨_, J2, rfl, h, hj, hj2⟩, rfl⟩))
                  · exact absurd rfl c_107
                · refine b_iload_n rfl rfl ?_
                  refine b_iconst rfl ?_
                  refine b_icmp_ne rfl (fun c_95 => ?_) (fun c_95 => ?_)
                  · refine b_iconst rfl ?_
                    exact b_ireturn rfl (by first | exact Or.inl rfl | exact Or.inr rfl | exact trivial) ((by rw [hPd]; exact ⟨⟨_, J2, rfl, h, hj, hj2⟩, rfl⟩))
                  · refine b_aload_n rfl rfl ?_
                    refine b_getR rfl (by first | rfl | assumption) rfl (by assumption) ?_
                    refine b_iload_n rfl rfl ?_
                    refine b_iload_n rfl rfl ?_
                    refine b_callV rfl rfl hk_State_canGo rfl rfl rfl (by first | rfl | assumption) rfl (Nat.le_of_ble_eq_true rfl) (q_State_canGo hSt9 (show p < 4 by omega) hpl8) (Nat.le_of_ble_eq_true rfl) (fun r_104 D_104 q_104 => ?_)
                    obtain ⟨rfl, hq⟩ := q_104
                    rw [z1, z2, P3_p z3 (by omega), if_neg hc] at hq
                    subst hq
                    refine b_if_eq rfl (fun c_107 => ?_) (fun c_107 => ?_)
                    · refine b_iconst rfl ?_
                      exact b_ireturn rfl (by first | exact Or.inl rfl | exact Or.inr rfl | exact trivial) ((by rw [hPd]; exact ⟨⟨_, J2, rfl, h, hj, hj2⟩, rfl⟩))
                    · exact absurd rfl c_107
          by_cases h2 : qP q p = -1
          · refine b_iload_n rfl rfl ?_
            refine b_if_ne rfl (fun c_43 => ?_) (fun c_43 => ?_)
            · refine b_iload_n rfl rfl ?_
              refine b_iconst rfl ?_
              refine b_icmp_ne rfl (fun c_61 => ?_) (fun c_61 => ?_)
              · exact L88
              · exact absurd ⟨(hi_nIe (k := 1) (by omega) (by omega)).mp c_61, h2⟩ h1
            · exact absurd c_43 b0
          · refine b_iload_n rfl rfl ?_
            refine b_if_ne rfl (fun c_43 => ?_) (fun c_43 => ?_)
            · refine b_iload_n rfl rfl ?_
              refine b_iconst rfl ?_
              refine b_icmp_ne rfl (fun c_61 => ?_) (fun c_61 => ?_)
              · exact L88
              · refine b_aload_n rfl rfl ?_
                refine b_getR rfl (by first | rfl | assumption) rfl (by assumption) ?_
                refine b_iload_n rfl rfl ?_
                refine b_callV rfl rfl hk_State_isLying rfl rfl rfl (by first | rfl | assumption) rfl (Nat.le_of_ble_eq_true rfl) (q_State_isLying hSt9 (show p < 4 by omega)) (Nat.le_of_ble_eq_true rfl) (fun r_69 D_69 q_69 => ?_)
                obtain ⟨rfl, hq⟩ := q_69
                rw [P3_p z3 (by omega), if_neg h2] at hq
                subst hq
                refine b_if_ne rfl (fun c_72 => ?_) (fun c_72 => ?_)
                · exact L88
                · exact absurd c_72 (by decide)
            · exact absurd c_43 b0
    refine b_aload_n rfl rfl ?_
    refine b_getR rfl (by first | rfl | assumption) rfl (by assumption) ?_
    refine b_getI rfl (by first | rfl | assumption) rfl ?_
    rw [z5]
    refine b_if_ne rfl (fun c_7 => ?_) (fun c_7 => ?_)
    · refine b_aload_n rfl rfl ?_
      refine b_aload_n rfl rfl ?_
      refine b_getR rfl (by first | rfl | assumption) rfl (by assumption) ?_
      refine b_getI rfl (by first | rfl | assumption) rfl ?_
      rw [z5]
      refine b_callV rfl rfl hk_X_draw rfl rfl rfl (by first | rfl | assumption) rfl (Nat.le_of_ble_eq_true rfl) (q_X_draw (ge_1 (show 1 ≤ N.2.1 by omega) (by omega))) (Nat.le_of_ble_eq_true rfl) (fun r_20 D_20 q_20 => ?_)
      obtain ⟨rfl, rfl⟩ := q_20
      rw [ep]
      obtain ⟨J1, hJ1⟩ : ∃ z, z = hn_u J' 0 19 (dr_n (J' 0 19)) := ⟨_, rfl⟩
      rw [← hJ1]
      have f1 : J1 0 19 = dr_n (J' 0 19) := by rw [hJ1, hn_u_eq, va_up, if_pos rfl]
      refine b_istore_n rfl (Nat.le_of_ble_eq_true rfl) ?_
      refine b_aload_n rfl rfl ?_
      refine b_aload_n rfl rfl ?_
      refine b_getR rfl (by first | rfl | assumption) rfl (by assumption) ?_
      refine b_getI rfl (by first | rfl | assumption) rfl ?_
      rw [e00]
      refine b_callV rfl rfl hk_X_draw rfl rfl rfl (by first | rfl | assumption) rfl (Nat.le_of_ble_eq_true rfl) (q_X_draw (ge_1 hn n8)) (Nat.le_of_ble_eq_true rfl) (fun r_32 D_32 q_32 => ?_)
      obtain ⟨rfl, rfl⟩ := q_32
      rw [f1, ek]
      obtain ⟨J2, hJ2⟩ : ∃ z, z = hn_u J1 0 19 (dr_n (dr_n (J' 0 19))) := ⟨_, rfl⟩
      rw [← hJ2]
      have f2 : J2 0 19 = dr_n (dr_n (J' 0 19)) := by rw [hJ2, hn_u_eq, va_up, if_pos rfl]
      refine b_istore_n rfl (Nat.le_of_ble_eq_true rfl) ?_
      refine b_aload_n rfl rfl ?_
      refine b_iconst rfl ?_
      refine b_callV rfl rfl hk_X_draw rfl rfl rfl (by first | rfl | assumption) rfl (Nat.le_of_ble_eq_true rfl) (q_X_draw (by decide)) (Nat.le_of_ble_eq_true rfl) (fun r_38 D_38 q_38 => ?_)
      obtain ⟨rfl, rfl⟩ := q_38
      rw [f2, ea]
      refine b_istore_n rfl (Nat.le_of_ble_eq_true rfl) ?_
      exact L42 _ (fun b hb => by rw [hn_u_ne _ _ _ hb, hJ2, hn_u_ne _ _ _ hb, hJ1, hn_u_ne _ _ _ hb]) (by rw [hn_u_eq, va_up, if_pos rfl])
    · exact absurd ((hi_nIe (k := 0) (by omega) (by omega)).mp c_7) hp0
end HNseasons
