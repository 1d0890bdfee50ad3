section HNhand
variable {I I' : Nat → Nat → Int32} {J J' : Nat → Nat → Int64} {R : Nat → Nat → Option Nat} {t : Nat} {N : sp_N} {Q Q' : sp_Q}
/-- the state and what can be undone -/
abbrev sp_U : Type := sp_Q × Nat × (Nat → sp_Q)
abbrev u_push (U : sp_U) (q : sp_Q) : sp_U := (q, sp_pl U.2.1, sp_pe U.1 U.2.2)
/-- what a deed by hand may change: the class's -/
abbrev hs_uc (t b : Nat) : Prop := b = 0 ∨ (44 ≤ b ∧ b ≤ 48) ∨ (55 ≤ b ∧ b < 135) ∨ b = t + 9 ∨ b = t + 10
def hs_ux (t : Nat) (N : sp_N) (I : Nat → Nat → Int32) (J : Nat → Nat → Int64) (R : Nat → Nat → Option Nat) (U : sp_U) (D : hnD) : Prop := D.2.1 = J ∧ D.2.2 = R ∧ (∀ b, ¬ hs_uc t b → D.1 b = I b) ∧ (∀ i, i ≠ 9 → i ≠ 10 → D.1 0 i = I 0 i) ∧ hs_Qx D.1 44 N.1 N.2.1 0 U.1 ∧ hs_px D.1 N.1 N.2.1 U.2.1 U.2.2 ∧ hs_zs D.1
theorem hs_ux_r {U : sp_U} (hX : hs_Qx I 44 N.1 N.2.1 0 U.1) (hp : hs_px I N.1 N.2.1 U.2.1 U.2.2) (hz : hs_zs I) : hs_ux t N I J R U (I, J, R) := ⟨rfl, rfl, fun _ _ => rfl, fun _ _ _ => rfl, hX, hp, hz⟩
theorem hs_px_fr {n np len : Nat} {e : Nat → sp_Q} (h : hs_px I n np len e) (h0 : I' 0 = I 0) (hf : ∀ b, 55 ≤ b → b < 135 → I' b = I b) : hs_px I' n np len e := by
  obtain ⟨nw, h1, h2, h3, h4, h5⟩ := h
  refine ⟨nw, h1, by rw [h0]; exact h2, by rw [h0]; exact h3, h4, fun j hj => hs_Qx_fr (h5 j hj) (fun b hb1 hb2 => ?_)⟩
  have := Nat.mod_lt (nw + 16 - j) (show 16 > 0 by omega)
  exact hf b (by omega) (by omega)
/-- after remembering, a new state in now -/
theorem hs_ux_now {U : sp_U} {q : sp_Q} {I1 I2 : Nat → Nat → Int32} {n : Nat} (ht : t = 4 ∨ t = 20) (f1 : ∀ b, b ≠ 0 → ¬ (55 ≤ b ∧ b < 135) → I1 b = I b) (f2 : ∀ i, i ≠ 9 → i ≠ 10 → I1 0 i = I 0 i) (hp : hs_px I1 N.1 N.2.1 (sp_pl U.2.1) (sp_pe U.1 U.2.2)) (hz : hs_zs I1) (g1 : ∀ b, ¬ ((44 ≤ b ∧ b ≤ 48) ∨ b = t + 9 ∨ b = t + 10) → I2 b = I1 b) (hX : hs_Qx I2 44 N.1 N.2.1 0 q) (hw : hs_Qw n N.2.1 q) (n8 : n ≤ 8) (n4 : N.2.1 ≤ 4) : hs_ux t N I J R (u_push U q) (I2, J, R) := by
  refine ⟨rfl, rfl, fun b hb => ?_, fun i h1 h2 => ?_, hX, hs_px_fr hp (g1 0 (by omega)) (fun b h1 h2 => g1 b (by omega)), fun a ha => ?_⟩
  · unfold hs_uc at hb
    exact (g1 b (by omega)).trans (f1 b (by omega) (by omega))
  · exact (congrFun (g1 0 (by omega)) i).trans (f2 i h1 h2)
  · have k : ∀ a, a ∈ hs_sc → a = 44 ∨ ((a + 4 < 44 ∨ 48 < a) ∧ (a + 4 < 13 ∨ 14 < a) ∧ (a + 4 < 29 ∨ 30 < a)) := by decide +kernel
    rcases k a ha with rfl | h
    · exact hs_z_of hX hw n8 n4
    · exact hs_z_fr (hz a ha) (fun b h1 h2 => g1 b (by omega))
theorem hs_A_rm {I1 : Nat → Nat → Int32} (hA : hs_A I R t N Q) (f1 : ∀ b, b ≠ 0 → ¬ (55 ≤ b ∧ b < 135) → I1 b = I b) : hs_A I1 R t N Q := by
  obtain ⟨hR, r2, ht, hN, hX, hw, hz, hAw⟩ := hA
  refine ⟨hR, r2, ht, ?_, hs_Qx_fr hX (fun b h1 h2 => f1 b (by omega) (by omega)), hw, hs_z_fr hz (fun b h1 h2 => f1 b (by omega) (by omega)), hAw⟩
  unfold hs_Nx hs_code
  rw [f1 t (by omega) (by omega), f1 (t + 2) (by omega) (by omega), f1 (t + 3) (by omega) (by omega), f1 (t + 4) (by omega) (by omega), f1 (t + 6) (by omega) (by omega), f1 (t + 7) (by omega) (by omega)]
  exact hN
section
variable {U : sp_U}
def u_hour (N : sp_N) (U : sp_U) : sp_U × Int32 := (u_push U (sp_hr N 0 (-1) U.1).1, (sp_hr N 0 (-1) U.1).2)
theorem q_X_hour (hA : hs_A I R t N U.1) (hzs : hs_zs I) (hp : hs_px I N.1 N.2.1 U.2.1 U.2.2) : hn_F 6 hm_X_hour [.ref 0] (I, J, R) (fun r D' => hs_ux t N I J R (u_hour N U).1 D' ∧ r = some (.int (u_hour N U).2)) := by
  have hA0 := hA
  obtain ⟨hR, r2, ht, hN, hX, hw, hz, hAw⟩ := hA
  have hN0 := hN
  have hX0 := hX
  have hw0 := hw
  obtain ⟨n0, n8, n4, nk, nh, na, hc, ncd⟩ := hN
  obtain ⟨x1, x2, x3, x4, x5, x6, x7⟩ := hX
  obtain ⟨r6, r7, r8, r11, r12, r13, r14, r15, r16, r17, r18⟩ := hs_x0 hR
  have hSt := hs_St_of hR (show 44 ∈ hs_sc by decide)
  have hNt := hs_Net_of hR ht
  obtain ⟨_, sk0, sk1, sk2, sk3, sk4, g0, g1, g2, g3⟩ := id hSt
  obtain ⟨tt5, tn0, tn1, tn2, tn3, tn4, tn5, tn6, tn7, tn8, tn9, tn10, ts1, ts2, ts3, ts4, ts5, ts7, ts8, tl0, tl2, tl6, tl7⟩ := id hNt
  refine hn_F_of _ hk_X_hour rfl (Nat.le_of_ble_eq_true rfl) ?_
  refine b_aload_n rfl rfl ?_
  refine b_callV rfl rfl hk_X_remember rfl rfl rfl (by first | rfl | assumption) rfl (Nat.le_of_ble_eq_true rfl) (q_X_remember hA0 hzs hp) (Nat.le_of_ble_eq_true rfl) (fun r_1 D_1 q_1 => ?_)
  obtain ⟨rfl, I1, rfl, f1, f2, p1, z1⟩ := q_1
  have hA1 := hs_A_rm hA0 f1
  obtain ⟨_, _, _, hN1, hX1, _⟩ := id hA1
  refine b_aload_n rfl rfl ?_
  refine b_getR rfl (by first | rfl | assumption) rfl (by assumption) ?_
  refine b_aload_n rfl rfl ?_
  refine b_getR rfl (by first | rfl | assumption) rfl (by assumption) ?_
  refine b_iconst rfl ?_
  refine b_callV rfl rfl hk_State_passHour rfl rfl rfl (by first | rfl | assumption) rfl (Nat.le_of_ble_eq_true rfl) (qx_hour (odd := -1) hSt hNt hN1 hX1 hw0.1) (Nat.le_of_ble_eq_true rfl) (fun r_13 D_13 q_13 => ?_)
  obtain ⟨hf, g1, rfl⟩ := q_13
  obtain ⟨I2, rfl, hI2⟩ := hf.out
  exact b_ireturn rfl trivial (⟨hs_ux_now ht f1 f2 p1 z1 (fun b hb => hI2 b (fun e => hb (by unfold hs_w at e; omega))) g1 (sp_hr_w n4 hw0) n8 n4, rfl⟩)
abbrev sp_can (U : sp_U) (p k : Nat) : Prop := sp_awk (qW U.1) (qP U.1) p ∧ sp_bit (qS U.1 (qP U.1 p).toNatClampNeg) k
def u_shift (N : sp_N) (U : sp_U) (x y : Int32) : sp_U × Int32 := if sp_in x N.2.1 ∧ sp_in y N.1 ∧ sp_can U x.toNatClampNeg y.toNatClampNeg then (u_push U (sp_sh N 0 U.1 x.toNatClampNeg y.toNatClampNeg), qW (sp_sh N 0 U.1 x.toNatClampNeg y.toNatClampNeg) x.toNatClampNeg) else (U, -1)
theorem q_X_shift {x y : Int32} (hA : hs_A I R t N U.1) (hzs : hs_zs I) (hp : hs_px I N.1 N.2.1 U.2.1 U.2.2) : hn_F 5 hm_X_shift [.ref 0, .int x, .int y] (I, J, R) (fun r D' => hs_ux t N I J R (u_shift N U x y).1 D' ∧ r = some (.int (u_shift N U x y).2)) := by
  have hA0 := hA
  obtain ⟨hR, r2, ht, hN, hX, hw, hz, hAw⟩ := hA
  have hN0 := hN
  have hX0 := hX
  have hw0 := hw
  obtain ⟨n0, n8, n4, nk, nh, na, hc, ncd⟩ := hN
  obtain ⟨x1, x2, x3, x4, x5, x6, x7⟩ := hX
  obtain ⟨r6, r7, r8, r11, r12, r13, r14, r15, r16, r17, r18⟩ := hs_x0 hR
  have hSt := hs_St_of hR (show 44 ∈ hs_sc by decide)
  have hNt := hs_Net_of hR ht
  obtain ⟨_, sk0, sk1, sk2, sk3, sk4, g0, g1, g2, g3⟩ := id hSt
  obtain ⟨tt5, tn0, tn1, tn2, tn3, tn4, tn5, tn6, tn7, tn8, tn9, tn10, ts1, ts2, ts3, ts4, ts5, ts7, ts8, tl0, tl2, tl6, tl7⟩ := id hNt
  refine hn_F_of _ hk_X_shift rfl (Nat.le_of_ble_eq_true rfl) ?_
  by_cases hx : sp_in x N.2.1
  · by_cases hy : sp_in y N.1
    · obtain ⟨p, hpp, rfl⟩ := sp_in_nat hx
      obtain ⟨k, hk, rfl⟩ := sp_in_nat hy
      have hpl8 : I (44 + 3) p = -1 ∨ ∃ q, q < 8 ∧ I (44 + 3) p = nI q := by
        rw [P3_p x3 (by omega)]
        rcases hw0.1 p (by omega) with h | ⟨q, h1, h2⟩
        · exact Or.inl h
        · exact Or.inr ⟨q, by omega, h2⟩
      rw [u_shift, nI_clamp (by omega), nI_clamp (by omega)]
      by_cases hcan : sp_can U p k
      · rw [if_pos ⟨hx, hy, hcan⟩]
        refine b_aload_n rfl rfl ?_
        refine b_iload_n rfl rfl ?_
        refine b_callV rfl rfl hk_X_isPerson rfl rfl rfl (by first | rfl | assumption) rfl (Nat.le_of_ble_eq_true rfl) (q_X_isPerson hA0) (Nat.le_of_ble_eq_true rfl) (fun r_2 D_2 q_2 => ?_)
        obtain ⟨rfl, hq⟩ := q_2
        rw [if_pos hx] at hq
        subst hq
        refine b_if_eq rfl (fun c_5 => ?_) (fun c_5 => ?_)
        · exact absurd c_5 (by decide)
        · refine b_aload_n rfl rfl ?_
          refine b_iload_n rfl rfl ?_
          refine b_callV rfl rfl hk_X_isKnot rfl rfl rfl (by first | rfl | assumption) rfl (Nat.le_of_ble_eq_true rfl) (q_X_isKnot hA0) (Nat.le_of_ble_eq_true rfl) (fun r_10 D_10 q_10 => ?_)
          obtain ⟨rfl, hq⟩ := q_10
          rw [if_pos hy] at hq
          subst hq
          refine b_if_eq rfl (fun c_13 => ?_) (fun c_13 => ?_)
          · exact absurd c_13 (by decide)
          · refine b_aload_n rfl rfl ?_
            refine b_getR rfl (by first | rfl | assumption) rfl (by assumption) ?_
            refine b_iload_n rfl rfl ?_
            refine b_iload_n rfl rfl ?_
            refine b_callV rfl rfl hk_State_canGo rfl rfl rfl (by first | rfl | assumption) rfl (Nat.le_of_ble_eq_true rfl) (q_State_canGo hSt (show p < 4 by omega) hpl8) (Nat.le_of_ble_eq_true rfl) (fun r_22 D_22 q_22 => ?_)
            obtain ⟨rfl, hq⟩ := q_22
            rw [x2, P3_p x3 (by omega), x1, if_pos hcan] at hq
            subst hq
            refine b_if_ne rfl (fun c_25 => ?_) (fun c_25 => ?_)
            · refine b_aload_n rfl rfl ?_
              refine b_callV rfl rfl hk_X_remember rfl rfl rfl (by first | rfl | assumption) rfl (Nat.le_of_ble_eq_true rfl) (q_X_remember hA0 hzs hp) (Nat.le_of_ble_eq_true rfl) (fun r_31 D_31 q_31 => ?_)
              obtain ⟨rfl, I1, rfl, f1, f2, p1, z1⟩ := q_31
              have hA1 := hs_A_rm hA0 f1
              obtain ⟨_, _, _, hN1, hX1, _⟩ := id hA1
              refine b_aload_n rfl rfl ?_
              refine b_getR rfl (by first | rfl | assumption) rfl (by assumption) ?_
              refine b_aload_n rfl rfl ?_
              refine b_getR rfl (by first | rfl | assumption) rfl (by assumption) ?_
              refine b_iload_n rfl rfl ?_
              refine b_iload_n rfl rfl ?_
              refine b_callV rfl rfl hk_State_go rfl rfl rfl (by first | rfl | assumption) rfl (Nat.le_of_ble_eq_true rfl) (qx_go hSt hNt hN1 hX1 (show 0 < N.2.1 by omega) (show p < 4 by omega) (show k < 8 by omega)) (Nat.le_of_ble_eq_true rfl) (fun r_44 D_44 q_44 => ?_)
              obtain ⟨hf, g1, rfl⟩ := q_44
              obtain ⟨I2, rfl, hI2⟩ := hf.out
              refine b_pop rfl rfl ?_
              refine b_aload_n rfl rfl ?_
              refine b_getR rfl (by first | rfl | assumption) rfl (by assumption) ?_
              refine b_getR rfl (by first | rfl | assumption) rfl (by assumption) ?_
              refine b_iload_n rfl rfl ?_
              refine b_iaload rfl (by first | rfl | assumption) (by first | assumption | exact nI_toInt (by omega) | exact hi_l0 | exact hi_l1 | exact hi_l2 | exact hi_l3 | exact hi_l4 | exact hi_l5 | exact hi_l6) (by omega) ?_
              rw [show I2 (44 + 2) = qW (sp_sh N 0 U.1 p k) from g1.2.1]
              exact b_ireturn rfl trivial (⟨hs_ux_now ht f1 f2 p1 z1 (fun b hb => hI2 b (fun e => hb (by unfold hs_w at e; omega))) g1 (sp_sh_w hw0 hpp hk n4) n8 n4, rfl⟩)
            · exact absurd c_25 (by decide)
      · rw [if_neg (fun z => hcan z.2.2)]
        refine b_aload_n rfl rfl ?_
        refine b_iload_n rfl rfl ?_
        refine b_callV rfl rfl hk_X_isPerson rfl rfl rfl (by first | rfl | assumption) rfl (Nat.le_of_ble_eq_true rfl) (q_X_isPerson hA0) (Nat.le_of_ble_eq_true rfl) (fun r_2 D_2 q_2 => ?_)
        obtain ⟨rfl, hq⟩ := q_2
        rw [if_pos hx] at hq
        subst hq
        refine b_if_eq rfl (fun c_5 => ?_) (fun c_5 => ?_)
        · exact absurd c_5 (by decide)
        · refine b_aload_n rfl rfl ?_
          refine b_iload_n rfl rfl ?_
          refine b_callV rfl rfl hk_X_isKnot rfl rfl rfl (by first | rfl | assumption) rfl (Nat.le_of_ble_eq_true rfl) (q_X_isKnot hA0) (Nat.le_of_ble_eq_true rfl) (fun r_10 D_10 q_10 => ?_)
          obtain ⟨rfl, hq⟩ := q_10
          rw [if_pos hy] at hq
          subst hq
          refine b_if_eq rfl (fun c_13 => ?_) (fun c_13 => ?_)
          · exact absurd c_13 (by decide)
          · refine b_aload_n rfl rfl ?_
            refine b_getR rfl (by first | rfl | assumption) rfl (by assumption) ?_
            refine b_iload_n rfl rfl ?_
            refine b_iload_n rfl rfl ?_
            refine b_callV rfl rfl hk_State_canGo rfl rfl rfl (by first | rfl | assumption) rfl (Nat.le_of_ble_eq_true rfl) (q_State_canGo hSt (show p < 4 by omega) hpl8) (Nat.le_of_ble_eq_true rfl) (fun r_22 D_22 q_22 => ?_)
            obtain ⟨rfl, hq⟩ := q_22
            rw [x2, P3_p x3 (by omega), x1, if_neg hcan] at hq
            subst hq
            refine b_if_ne rfl (fun c_25 => ?_) (fun c_25 => ?_)
            · exact absurd rfl c_25
            · refine b_iconst rfl ?_
              exact b_ireturn rfl trivial (⟨hs_ux_r hX0 hp hzs, rfl⟩)
    · rw [u_shift, if_neg (fun z => hy z.2.1)]
      refine b_aload_n rfl rfl ?_
      refine b_iload_n rfl rfl ?_
      refine b_callV rfl rfl hk_X_isPerson rfl rfl rfl (by first | rfl | assumption) rfl (Nat.le_of_ble_eq_true rfl) (q_X_isPerson hA0) (Nat.le_of_ble_eq_true rfl) (fun r_2 D_2 q_2 => ?_)
      obtain ⟨rfl, hq⟩ := q_2
      rw [if_pos hx] at hq
      subst hq
      refine b_if_eq rfl (fun c_5 => ?_) (fun c_5 => ?_)
      · exact absurd c_5 (by decide)
      · refine b_aload_n rfl rfl ?_
        refine b_iload_n rfl rfl ?_
        refine b_callV rfl rfl hk_X_isKnot rfl rfl rfl (by first | rfl | assumption) rfl (Nat.le_of_ble_eq_true rfl) (q_X_isKnot hA0) (Nat.le_of_ble_eq_true rfl) (fun r_10 D_10 q_10 => ?_)
        obtain ⟨rfl, hq⟩ := q_10
        rw [if_neg hy] at hq
        subst hq
        refine b_if_eq rfl (fun c_13 => ?_) (fun c_13 => ?_)
        · refine b_iconst rfl ?_
          exact b_ireturn rfl trivial (⟨hs_ux_r hX0 hp hzs, rfl⟩)
        · exact absurd rfl c_13
  · rw [u_shift, if_neg (fun z => hx z.1)]
    refine b_aload_n rfl rfl ?_
    refine b_iload_n rfl rfl ?_
    refine b_callV rfl rfl hk_X_isPerson rfl rfl rfl (by first | rfl | assumption) rfl (Nat.le_of_ble_eq_true rfl) (q_X_isPerson hA0) (Nat.le_of_ble_eq_true rfl) (fun r_2 D_2 q_2 => ?_)
    obtain ⟨rfl, hq⟩ := q_2
    rw [if_neg hx] at hq
    subst hq
    refine b_if_eq rfl (fun c_5 => ?_) (fun c_5 => ?_)
    · refine b_iconst rfl ?_
      exact b_ireturn rfl trivial (⟨hs_ux_r hX0 hp hzs, rfl⟩)
    · exact absurd rfl c_5
/-- one is put somewhere -/
def sp_put (Q : sp_Q) (p : Nat) (v : Int32) : sp_Q := (qS Q, qW Q, va_up (qP Q) p v, qH Q, qT Q)
theorem sp_put_w {p : Nat} {v : Int32} (h : hs_Qw N.1 N.2.1 Q) (hp : p < N.2.1) (h4 : N.2.1 ≤ 4) (hv : v = -1 ∨ ∃ q, q < N.1 ∧ v = nI q) : hs_Qw N.1 N.2.1 (sp_put Q p v) := by
  obtain ⟨w1, w2, w3, w4, w5, w6, w7, w8, w9⟩ := h
  exact ⟨hs_pl_up w1 hv, w2, w3, w4, w5, w6, fun q hq h => (if_neg (show ¬ q = p by omega)).trans (w7 q hq h), fun q hq => (if_neg (show ¬ q = p by omega)).trans (w8 q hq), w9⟩
/-- a string is tied or untied -/
def sp_tie (Q : sp_Q) (k o : Nat) : sp_Q := (va_up (qS Q) k (qS Q k ^^^ ((1 : Int32) <<< (nI o &&& 31))), qW Q, qP Q, qH Q, qT Q)
theorem nI_xor (a b : Nat) : nI a ^^^ nI b = nI (a ^^^ b) := by
  rw [← Int32.toBitVec_inj, Int32.toBitVec_xor]
  simp [nI, Int32.toBitVec_ofNat', BitVec.ofNat_xor]
theorem sp_bit_xor {a b : Int32} {k : Nat} (hk : k < 31) (hb : ¬ sp_bit b k) : sp_bit (a ^^^ b) k ↔ sp_bit a k := by
  rw [sp_bit_iff hk] at hb ⊢
  rw [sp_bit_iff hk, Int32.toBitVec_xor, BitVec.getLsbD_xor]
  cases h : b.toBitVec.getLsbD k
  · simp
  · exact absurd h hb
theorem sp_tie_w {k o : Nat} (h : hs_Qw N.1 N.2.1 Q) (hk : k < N.1) (ho : o < N.1) (h8 : N.1 ≤ 8) (hne : ¬ k = o) : hs_Qw N.1 N.2.1 (sp_tie Q k o) := by
  obtain ⟨w1, w2, w3, w4, w5, w6, w7, w8, w9⟩ := h
  refine ⟨w1, fun q hq => ?_, fun q hq => (if_neg (show ¬ q = k by omega)).trans (w3 q hq), fun q hq => ?_, w5, w6, w7, w8, w9⟩
  · show sp_lt N.1 (va_up (qS Q) k _ q)
    unfold va_up
    by_cases e : q = k
    · rw [if_pos e]
      obtain ⟨i, hi, he⟩ := w2 k hk
      rw [he, nI_shl (by omega), nI_xor]
      exact ⟨_, Nat.xor_lt_two_pow hi (Nat.pow_lt_pow_right (by omega) ho), rfl⟩
    · rw [if_neg e]; exact w2 q hq
  · show ¬ sp_bit (va_up (qS Q) k _ q) q
    unfold va_up
    by_cases e : q = k
    · rw [if_pos e, sp_bit_xor (by omega) (fun z => hne (by rw [← e]; exact (sp_bit_1 (by omega) (by omega)).mp z)), e]
      exact w4 k (by omega)
    · rw [if_neg e]; exact w4 q hq
def u_rouse (N : sp_N) (U : sp_U) (x : Int32) : sp_U × Int32 := if sp_in x N.2.1 ∧ ¬ qP U.1 x.toNatClampNeg = -1 then (u_push U (sp_put U.1 x.toNatClampNeg (-1)), qP U.1 x.toNatClampNeg) else (U, -1)
def u_lie (N : sp_N) (U : sp_U) (x y : Int32) : sp_U × Int32 := if sp_in x N.2.1 ∧ sp_in y N.1 ∧ qP U.1 x.toNatClampNeg = -1 then (u_push U (sp_put U.1 x.toNatClampNeg y), 1) else (U, 0)
def u_tie (N : sp_N) (U : sp_U) (x y : Int32) : sp_U × Int32 := if sp_in x N.1 ∧ sp_in y N.1 ∧ ¬ x = y then (u_push U (sp_tie U.1 x.toNatClampNeg y.toNatClampNeg), (qS (sp_tie U.1 x.toNatClampNeg y.toNatClampNeg) x.toNatClampNeg >>> (y &&& 31)) &&& 1) else (U, -1)
def u_undo (U : sp_U) : sp_U × Int32 := if U.2.1 = 0 then (U, 0) else ((U.2.2 0, U.2.1 - 1, fun j => U.2.2 (j + 1)), 1)
theorem hs_put_x {I1 : Nat → Nat → Int32} {p : Nat} {v : Int32} (h : hs_Qx I1 44 N.1 N.2.1 0 Q) (h0 : 0 < N.2.1) : hs_Qx (hn_u I1 (44 + 3) p v) 44 N.1 N.2.1 0 (sp_put Q p v) := by
  obtain ⟨x1, x2, x3, x4, x5, x6, x7⟩ := h
  have e : ∀ b, b ≠ 44 + 3 → hn_u I1 (44 + 3) p v b = I1 b := fun b hb => hn_u_ne _ _ _ hb
  refine ⟨by rw [e (44 + 1) (by omega)]; exact x1, by rw [e (44 + 2) (by omega)]; exact x2, Or.inl (by rw [hn_u_eq, P3_p x3 h0]; rfl), by rw [e (44 + 4) (by omega)]; exact x4, by rw [e 44 (by omega)]; exact x5, by rw [e 44 (by omega)]; exact x6, by rw [e 44 (by omega)]; exact x7⟩
theorem q_X_rouse {x : Int32} (hA : hs_A I R t N U.1) (hzs : hs_zs I) (hp : hs_px I N.1 N.2.1 U.2.1 U.2.2) : hn_F 5 hm_X_rouse [.ref 0, .int x] (I, J, R) (fun r D' => hs_ux t N I J R (u_rouse N U x).1 D' ∧ r = some (.int (u_rouse N U x).2)) := by
  have hA0 := hA
  obtain ⟨hR, r2, ht, hN, hX, hw, hz, hAw⟩ := hA
  have hN0 := hN
  have hX0 := hX
  have hw0 := hw
  obtain ⟨n0, n8, n4, nk, nh, na, hc, ncd⟩ := hN
  obtain ⟨x1, x2, x3, x4, x5, x6, x7⟩ := hX
  obtain ⟨r6, r7, r8, r11, r12, r13, r14, r15, r16, r17, r18⟩ := hs_x0 hR
  have hSt := hs_St_of hR (show 44 ∈ hs_sc by decide)
  have hNt := hs_Net_of hR ht
  obtain ⟨_, sk0, sk1, sk2, sk3, sk4, g0, g1, g2, g3⟩ := id hSt
  obtain ⟨tt5, tn0, tn1, tn2, tn3, tn4, tn5, tn6, tn7, tn8, tn9, tn10, ts1, ts2, ts3, ts4, ts5, ts7, ts8, tl0, tl2, tl6, tl7⟩ := id hNt
  refine hn_F_of _ hk_X_rouse rfl (Nat.le_of_ble_eq_true rfl) ?_
  by_cases hx : sp_in x N.2.1
  · obtain ⟨p, hpp, rfl⟩ := sp_in_nat hx
    rw [u_rouse, nI_clamp (by omega)]
    by_cases hl : qP U.1 p = -1
    · rw [if_neg (fun z => z.2 hl)]
      refine b_aload_n rfl rfl ?_
      refine b_iload_n rfl rfl ?_
      refine b_callV rfl rfl hk_X_isPerson rfl rfl rfl (by first | rfl | assumption) rfl (Nat.le_of_ble_eq_true rfl) (q_X_isPerson hA0) (Nat.le_of_ble_eq_true rfl) (fun r_2 D_2 q_2 => ?_)
      obtain ⟨rfl, hq⟩ := q_2
      rw [if_pos hx] at hq
      subst hq
      refine b_if_eq rfl (fun c_5 => ?_) (fun c_5 => ?_)
      · exact absurd c_5 (by decide)
      · refine b_aload_n rfl rfl ?_
        refine b_getR rfl (by first | rfl | assumption) rfl (by assumption) ?_
        refine b_iload_n rfl rfl ?_
        refine b_callV rfl rfl hk_State_isLying rfl rfl rfl (by first | rfl | assumption) rfl (Nat.le_of_ble_eq_true rfl) (q_State_isLying hSt (show p < 4 by omega)) (Nat.le_of_ble_eq_true rfl) (fun r_13 D_13 q_13 => ?_)
        obtain ⟨rfl, hq⟩ := q_13
        rw [P3_p x3 (by omega), if_pos hl] at hq
        subst hq
        refine b_if_ne rfl (fun c_16 => ?_) (fun c_16 => ?_)
        · exact absurd rfl c_16
        · refine b_iconst rfl ?_
          exact b_ireturn rfl trivial (⟨hs_ux_r hX0 hp hzs, rfl⟩)
    · rw [if_pos ⟨hx, hl⟩]
      refine b_aload_n rfl rfl ?_
      refine b_iload_n rfl rfl ?_
      refine b_callV rfl rfl hk_X_isPerson rfl rfl rfl (by first | rfl | assumption) rfl (Nat.le_of_ble_eq_true rfl) (q_X_isPerson hA0) (Nat.le_of_ble_eq_true rfl) (fun r_2 D_2 q_2 => ?_)
      obtain ⟨rfl, hq⟩ := q_2
      rw [if_pos hx] at hq
      subst hq
      refine b_if_eq rfl (fun c_5 => ?_) (fun c_5 => ?_)
      · exact absurd c_5 (by decide)
      · refine b_aload_n rfl rfl ?_
        refine b_getR rfl (by first | rfl | assumption) rfl (by assumption) ?_
        refine b_iload_n rfl rfl ?_
        refine b_callV rfl rfl hk_State_isLying rfl rfl rfl (by first | rfl | assumption) rfl (Nat.le_of_ble_eq_true rfl) (q_State_isLying hSt (show p < 4 by omega)) (Nat.le_of_ble_eq_true rfl) (fun r_13 D_13 q_13 => ?_)
        obtain ⟨rfl, hq⟩ := q_13
        rw [P3_p x3 (by omega), if_neg hl] at hq
        subst hq
        refine b_if_ne rfl (fun c_16 => ?_) (fun c_16 => ?_)
        · refine b_aload_n rfl rfl ?_
          refine b_callV rfl rfl hk_X_remember rfl rfl rfl (by first | rfl | assumption) rfl (Nat.le_of_ble_eq_true rfl) (q_X_remember hA0 hzs hp) (Nat.le_of_ble_eq_true rfl) (fun r_22 D_22 q_22 => ?_)
          obtain ⟨rfl, I1, rfl, f1, f2, p1, z1⟩ := q_22
          have hX1 := (hs_A_rm hA0 f1).2.2.2.2.1
          refine b_aload_n rfl rfl ?_
          refine b_getR rfl (by first | rfl | assumption) rfl (by assumption) ?_
          refine b_getR rfl (by first | rfl | assumption) rfl (by assumption) ?_
          refine b_iload_n rfl rfl ?_
          refine b_iaload rfl (by first | rfl | assumption) (by first | assumption | exact nI_toInt (by omega) | exact hi_l0 | exact hi_l1 | exact hi_l2 | exact hi_l3 | exact hi_l4 | exact hi_l5 | exact hi_l6) (by omega) ?_
          rw [show I1 (44 + 3) = qP U.1 from P3_p hX1.2.2.1 (by omega)]
          refine b_istore_n rfl (Nat.le_of_ble_eq_true rfl) ?_
          refine b_aload_n rfl rfl ?_
          refine b_getR rfl (by first | rfl | assumption) rfl (by assumption) ?_
          refine b_getR rfl (by first | rfl | assumption) rfl (by assumption) ?_
          refine b_iload_n rfl rfl ?_
          refine b_iconst rfl ?_
          refine b_iastore rfl (by first | rfl | assumption) (by first | assumption | exact nI_toInt (by omega) | exact hi_l0 | exact hi_l1 | exact hi_l2 | exact hi_l3 | exact hi_l4 | exact hi_l5 | exact hi_l6) (by omega) ?_
          refine b_iload_n rfl rfl ?_
          exact b_ireturn rfl trivial (⟨hs_ux_now ht f1 f2 p1 z1 (fun b hb => hn_u_ne _ _ _ (by omega)) (hs_put_x hX1 (by omega)) (sp_put_w hw0 hpp n4 (Or.inl rfl)) n8 n4, rfl⟩)
        · exact absurd c_16 (by decide)
  · rw [u_rouse, if_neg (fun z => hx z.1)]
    refine b_aload_n rfl rfl ?_
    refine b_iload_n rfl rfl ?_
    refine b_callV rfl rfl hk_X_isPerson rfl rfl rfl (by first | rfl | assumption) rfl (Nat.le_of_ble_eq_true rfl) (q_X_isPerson hA0) (Nat.le_of_ble_eq_true rfl) (fun r_2 D_2 q_2 => ?_)
    obtain ⟨rfl, hq⟩ := q_2
    rw [if_neg hx] at hq
    subst hq
    refine b_if_eq rfl (fun c_5 => ?_) (fun c_5 => ?_)
    · refine b_iconst rfl ?_
      exact b_ireturn rfl trivial (⟨hs_ux_r hX0 hp hzs, rfl⟩)
    · exact absurd rfl c_5
theorem q_X_lie {x y : Int32} (hA : hs_A I R t N U.1) (hzs : hs_zs I) (hp : hs_px I N.1 N.2.1 U.2.1 U.2.2) : hn_F 5 hm_X_lie [.ref 0, .int x, .int y] (I, J, R) (fun r D' => hs_ux t N I J R (u_lie N U x y).1 D' ∧ r = some (.int (u_lie N U x y).2)) := by
  have hA0 := hA
  obtain ⟨hR, r2, ht, hN, hX, hw, hz, hAw⟩ := hA
  have hN0 := hN
  have hX0 := hX
  have hw0 := hw
  obtain ⟨n0, n8, n4, nk, nh, na, hc, ncd⟩ := hN
  obtain ⟨x1, x2, x3, x4, x5, x6, x7⟩ := hX
  obtain ⟨r6, r7, r8, r11, r12, r13, r14, r15, r16, r17, r18⟩ := hs_x0 hR
  have hSt := hs_St_of hR (show 44 ∈ hs_sc by decide)
  have hNt := hs_Net_of hR ht
  obtain ⟨_, sk0, sk1, sk2, sk3, sk4, g0, g1, g2, g3⟩ := id hSt
  obtain ⟨tt5, tn0, tn1, tn2, tn3, tn4, tn5, tn6, tn7, tn8, tn9, tn10, ts1, ts2, ts3, ts4, ts5, ts7, ts8, tl0, tl2, tl6, tl7⟩ := id hNt
  refine hn_F_of _ hk_X_lie rfl (Nat.le_of_ble_eq_true rfl) ?_
  by_cases hx : sp_in x N.2.1
  · by_cases hy : sp_in y N.1
    · obtain ⟨p, hpp, rfl⟩ := sp_in_nat hx
      obtain ⟨k, hk, rfl⟩ := sp_in_nat hy
      rw [u_lie, nI_clamp (by omega)]
      by_cases hl : qP U.1 p = -1
      · rw [if_pos ⟨hx, hy, hl⟩]
        refine b_aload_n rfl rfl ?_
        refine b_iload_n rfl rfl ?_
        refine b_callV rfl rfl hk_X_isPerson rfl rfl rfl (by first | rfl | assumption) rfl (Nat.le_of_ble_eq_true rfl) (q_X_isPerson hA0) (Nat.le_of_ble_eq_true rfl) (fun r_2 D_2 q_2 => ?_)
        obtain ⟨rfl, hq⟩ := q_2
        rw [if_pos hx] at hq
        subst hq
        refine b_if_eq rfl (fun c_5 => ?_) (fun c_5 => ?_)
        · exact absurd c_5 (by decide)
        · refine b_aload_n rfl rfl ?_
          refine b_iload_n rfl rfl ?_
          refine b_callV rfl rfl hk_X_isKnot rfl rfl rfl (by first | rfl | assumption) rfl (Nat.le_of_ble_eq_true rfl) (q_X_isKnot hA0) (Nat.le_of_ble_eq_true rfl) (fun r_10 D_10 q_10 => ?_)
          obtain ⟨rfl, hq⟩ := q_10
          rw [if_pos hy] at hq
          subst hq
          refine b_if_eq rfl (fun c_13 => ?_) (fun c_13 => ?_)
          · exact absurd c_13 (by decide)
          · refine b_aload_n rfl rfl ?_
            refine b_getR rfl (by first | rfl | assumption) rfl (by assumption) ?_
            refine b_iload_n rfl rfl ?_
            refine b_callV rfl rfl hk_State_isLying rfl rfl rfl (by first | rfl | assumption) rfl (Nat.le_of_ble_eq_true rfl) (q_State_isLying hSt (show p < 4 by omega)) (Nat.le_of_ble_eq_true rfl) (fun r_21 D_21 q_21 => ?_)
            obtain ⟨rfl, hq⟩ := q_21
            rw [P3_p x3 (by omega), if_pos hl] at hq
            subst hq
            refine b_if_eq rfl (fun c_24 => ?_) (fun c_24 => ?_)
            · refine b_aload_n rfl rfl ?_
              refine b_callV rfl rfl hk_X_remember rfl rfl rfl (by first | rfl | assumption) rfl (Nat.le_of_ble_eq_true rfl) (q_X_remember hA0 hzs hp) (Nat.le_of_ble_eq_true rfl) (fun r_30 D_30 q_30 => ?_)
              obtain ⟨rfl, I1, rfl, f1, f2, p1, z1⟩ := q_30
              have hX1 := (hs_A_rm hA0 f1).2.2.2.2.1
              refine b_aload_n rfl rfl ?_
              refine b_getR rfl (by first | rfl | assumption) rfl (by assumption) ?_
              refine b_getR rfl (by first | rfl | assumption) rfl (by assumption) ?_
              refine b_iload_n rfl rfl ?_
              refine b_iload_n rfl rfl ?_
              refine b_iastore rfl (by first | rfl | assumption) (by first | assumption | exact nI_toInt (by omega) | exact hi_l0 | exact hi_l1 | exact hi_l2 | exact hi_l3 | exact hi_l4 | exact hi_l5 | exact hi_l6) (by omega) ?_
              refine b_iconst rfl ?_
              exact b_ireturn rfl (by first | exact Or.inl rfl | exact Or.inr rfl | exact trivial) (⟨hs_ux_now ht f1 f2 p1 z1 (fun b hb => hn_u_ne _ _ _ (by omega)) (hs_put_x hX1 (by omega)) (sp_put_w hw0 hpp n4 (Or.inr ⟨k, hk, rfl⟩)) n8 n4, rfl⟩)
            · exact absurd rfl c_24
      · rw [if_neg (fun z => hl z.2.2)]
        refine b_aload_n rfl rfl ?_
        refine b_iload_n rfl rfl ?_
        refine b_callV rfl rfl hk_X_isPerson rfl rfl rfl (by first | rfl | assumption) rfl (Nat.le_of_ble_eq_true rfl) (q_X_isPerson hA0) (Nat.le_of_ble_eq_true rfl) (fun r_2 D_2 q_2 => ?_)
        obtain ⟨rfl, hq⟩ := q_2
        rw [if_pos hx] at hq
        subst hq
        refine b_if_eq rfl (fun c_5 => ?_) (fun c_5 => ?_)
        · exact absurd c_5 (by decide)
        · refine b_aload_n rfl rfl ?_
          refine b_iload_n rfl rfl ?_
          refine b_callV rfl rfl hk_X_isKnot rfl rfl rfl (by first | rfl | assumption) rfl (Nat.le_of_ble_eq_true rfl) (q_X_isKnot hA0) (Nat.le_of_ble_eq_true rfl) (fun r_10 D_10 q_10 => ?_)
          obtain ⟨rfl, hq⟩ := q_10
          rw [if_pos hy] at hq
          subst hq
          refine b_if_eq rfl (fun c_13 => ?_) (fun c_13 => ?_)
          · exact absurd c_13 (by decide)
          · refine b_aload_n rfl rfl ?_
            refine b_getR rfl (by first | rfl | assumption) rfl (by assumption) ?_
            refine b_iload_n rfl rfl ?_
            refine b_callV rfl rfl hk_State_isLying rfl rfl rfl (by first | rfl | assumption) rfl (Nat.le_of_ble_eq_true rfl) (q_State_isLying hSt (show p < 4 by omega)) (Nat.le_of_ble_eq_true rfl) (fun r_21 D_21 q_21 => ?_)
            obtain ⟨rfl, hq⟩ := q_21
            rw [P3_p x3 (by omega), if_neg hl] at hq
            subst hq
            refine b_if_eq rfl (fun c_24 => ?_) (fun c_24 => ?_)
            · exact absurd c_24 (by decide)
            · refine b_iconst rfl ?_
              exact b_ireturn rfl (by first | exact Or.inl rfl | exact Or.inr rfl | exact trivial) (⟨hs_ux_r hX0 hp hzs, rfl⟩)
    · rw [u_lie, if_neg (fun z => hy z.2.1)]
      refine b_aload_n rfl rfl ?_
      refine b_iload_n rfl rfl ?_
      refine b_callV rfl rfl hk_X_isPerson rfl rfl rfl (by first | rfl | assumption) rfl (Nat.le_of_ble_eq_true rfl) (q_X_isPerson hA0) (Nat.le_of_ble_eq_true rfl) (fun r_2 D_2 q_2 => ?_)
      obtain ⟨rfl, hq⟩ := q_2
      rw [if_pos hx] at hq
      subst hq
      refine b_if_eq rfl (fun c_5 => ?_) (fun c_5 => ?_)
      · exact absurd c_5 (by decide)
      · refine b_aload_n rfl rfl ?_
        refine b_iload_n rfl rfl ?_
        refine b_callV rfl rfl hk_X_isKnot rfl rfl rfl (by first | rfl | assumption) rfl (Nat.le_of_ble_eq_true rfl) (q_X_isKnot hA0) (Nat.le_of_ble_eq_true rfl) (fun r_10 D_10 q_10 => ?_)
        obtain ⟨rfl, hq⟩ := q_10
        rw [if_neg hy] at hq
        subst hq
        refine b_if_eq rfl (fun c_13 => ?_) (fun c_13 => ?_)
        · refine b_iconst rfl ?_
          exact b_ireturn rfl (by first | exact Or.inl rfl | exact Or.inr rfl | exact trivial) (⟨hs_ux_r hX0 hp hzs, rfl⟩)
        · exact absurd rfl c_13
  · rw [u_lie, if_neg (fun z => hx z.1)]
    refine b_aload_n rfl rfl ?_
    refine b_iload_n rfl rfl ?_
    refine b_callV rfl rfl hk_X_isPerson rfl rfl rfl (by first | rfl | assumption) rfl (Nat.le_of_ble_eq_true rfl) (q_X_isPerson hA0) (Nat.le_of_ble_eq_true rfl) (fun r_2 D_2 q_2 => ?_)
    obtain ⟨rfl, hq⟩ := q_2
    rw [if_neg hx] at hq
    subst hq
    refine b_if_eq rfl (fun c_5 => ?_) (fun c_5 => ?_)
    · refine b_iconst rfl ?_
      exact b_ireturn rfl (by first | exact Or.inl rfl | exact Or.inr rfl | exact trivial) (⟨hs_ux_r hX0 hp hzs, rfl⟩)
    · exact absurd rfl c_5
theorem hs_tie_x {I1 : Nat → Nat → Int32} {k o : Nat} {v : Int32} (h : hs_Qx I1 44 N.1 N.2.1 0 Q) (hv : v = qS Q k ^^^ ((1 : Int32) <<< (nI o &&& 31))) : hs_Qx (hn_u I1 (44 + 1) k v) 44 N.1 N.2.1 0 (sp_tie Q k o) := by
  obtain ⟨x1, x2, x3, x4, x5, x6, x7⟩ := h
  have e : ∀ b, b ≠ 44 + 1 → hn_u I1 (44 + 1) k v b = I1 b := fun b hb => hn_u_ne _ _ _ hb
  refine ⟨by rw [hn_u_eq, x1, hv]; rfl, by rw [e (44 + 2) (by omega)]; exact x2, by rw [e (44 + 3) (by omega)]; exact x3, by rw [e (44 + 4) (by omega)]; exact x4, by rw [e 44 (by omega)]; exact x5, by rw [e 44 (by omega)]; exact x6, by rw [e 44 (by omega)]; exact x7⟩
theorem q_X_tie {x y : Int32} (hA : hs_A I R t N U.1) (hzs : hs_zs I) (hp : hs_px I N.1 N.2.1 U.2.1 U.2.2) : hn_F 5 hm_X_tie [.ref 0, .int x, .int y] (I, J, R) (fun r D' => hs_ux t N I J R (u_tie N U x y).1 D' ∧ r = some (.int (u_tie N U x y).2)) := by
  have hA0 := hA
  obtain ⟨hR, r2, ht, hN, hX, hw, hz, hAw⟩ := hA
  have hN0 := hN
  have hX0 := hX
  have hw0 := hw
  obtain ⟨n0, n8, n4, nk, nh, na, hc, ncd⟩ := hN
  obtain ⟨x1, x2, x3, x4, x5, x6, x7⟩ := hX
  obtain ⟨r6, r7, r8, r11, r12, r13, r14, r15, r16, r17, r18⟩ := hs_x0 hR
  have hSt := hs_St_of hR (show 44 ∈ hs_sc by decide)
  have hNt := hs_Net_of hR ht
  obtain ⟨_, sk0, sk1, sk2, sk3, sk4, g0, g1, g2, g3⟩ := id hSt
  obtain ⟨tt5, tn0, tn1, tn2, tn3, tn4, tn5, tn6, tn7, tn8, tn9, tn10, ts1, ts2, ts3, ts4, ts5, ts7, ts8, tl0, tl2, tl6, tl7⟩ := id hNt
  refine hn_F_of _ hk_X_tie rfl (Nat.le_of_ble_eq_true rfl) ?_
  by_cases hx : sp_in x N.1
  · by_cases hy : sp_in y N.1
    · obtain ⟨k, hk, rfl⟩ := sp_in_nat hx
      obtain ⟨o, ho, rfl⟩ := sp_in_nat hy
      rw [u_tie, nI_clamp (by omega), nI_clamp (by omega)]
      by_cases hl : nI k = nI o
      · rw [if_neg (fun z => z.2.2 hl)]
        refine b_aload_n rfl rfl ?_
        refine b_iload_n rfl rfl ?_
        refine b_callV rfl rfl hk_X_isKnot rfl rfl rfl (by first | rfl | assumption) rfl (Nat.le_of_ble_eq_true rfl) (q_X_isKnot hA0) (Nat.le_of_ble_eq_true rfl) (fun r_2 D_2 q_2 => ?_)
        obtain ⟨rfl, hq⟩ := q_2
        rw [if_pos hx] at hq
        subst hq
        refine b_if_eq rfl (fun c_5 => ?_) (fun c_5 => ?_)
        · exact absurd c_5 (by decide)
        · refine b_aload_n rfl rfl ?_
          refine b_iload_n rfl rfl ?_
          refine b_callV rfl rfl hk_X_isKnot rfl rfl rfl (by first | rfl | assumption) rfl (Nat.le_of_ble_eq_true rfl) (q_X_isKnot hA0) (Nat.le_of_ble_eq_true rfl) (fun r_10 D_10 q_10 => ?_)
          obtain ⟨rfl, hq⟩ := q_10
          rw [if_pos hy] at hq
          subst hq
          refine b_if_eq rfl (fun c_13 => ?_) (fun c_13 => ?_)
          · exact absurd c_13 (by decide)
          · refine b_iload_n rfl rfl ?_
            refine b_iload_n rfl rfl ?_
            refine b_icmp_ne rfl (fun c_18 => ?_) (fun c_18 => ?_)
            · exact absurd hl c_18
            · refine b_iconst rfl ?_
              exact b_ireturn rfl trivial (⟨hs_ux_r hX0 hp hzs, rfl⟩)
      · rw [if_pos ⟨hx, hy, hl⟩]
        refine b_aload_n rfl rfl ?_
        refine b_iload_n rfl rfl ?_
        refine b_callV rfl rfl hk_X_isKnot rfl rfl rfl (by first | rfl | assumption) rfl (Nat.le_of_ble_eq_true rfl) (q_X_isKnot hA0) (Nat.le_of_ble_eq_true rfl) (fun r_2 D_2 q_2 => ?_)
        obtain ⟨rfl, hq⟩ := q_2
        rw [if_pos hx] at hq
        subst hq
        refine b_if_eq rfl (fun c_5 => ?_) (fun c_5 => ?_)
        · exact absurd c_5 (by decide)
        · refine b_aload_n rfl rfl ?_
          refine b_iload_n rfl rfl ?_
          refine b_callV rfl rfl hk_X_isKnot rfl rfl rfl (by first | rfl | assumption) rfl (Nat.le_of_ble_eq_true rfl) (q_X_isKnot hA0) (Nat.le_of_ble_eq_true rfl) (fun r_10 D_10 q_10 => ?_)
          obtain ⟨rfl, hq⟩ := q_10
          rw [if_pos hy] at hq
          subst hq
          refine b_if_eq rfl (fun c_13 => ?_) (fun c_13 => ?_)
          · exact absurd c_13 (by decide)
          · refine b_iload_n rfl rfl ?_
            refine b_iload_n rfl rfl ?_
            refine b_icmp_ne rfl (fun c_18 => ?_) (fun c_18 => ?_)
            · refine b_aload_n rfl rfl ?_
              refine b_callV rfl rfl hk_X_remember rfl rfl rfl (by first | rfl | assumption) rfl (Nat.le_of_ble_eq_true rfl) (q_X_remember hA0 hzs hp) (Nat.le_of_ble_eq_true rfl) (fun r_24 D_24 q_24 => ?_)
              obtain ⟨rfl, I1, rfl, f1, f2, p1, z1⟩ := q_24
              have hX1 := (hs_A_rm hA0 f1).2.2.2.2.1
              refine b_aload_n rfl rfl ?_
              refine b_getR rfl (by first | rfl | assumption) rfl (by assumption) ?_
              refine b_getR rfl (by first | rfl | assumption) rfl (by assumption) ?_
              refine b_iload_n rfl rfl ?_
              refine b_dup2_11 rfl rfl rfl ?_
              refine b_iaload rfl (by first | rfl | assumption) (by first | assumption | exact nI_toInt (by omega) | exact hi_l0 | exact hi_l1 | exact hi_l2 | exact hi_l3 | exact hi_l4 | exact hi_l5 | exact hi_l6) (by omega) ?_
              rw [show I1 (44 + 1) = qS U.1 from hX1.1]
              refine b_iconst rfl ?_
              refine b_iload_n rfl rfl ?_
              refine b_ishl rfl ?_
              refine b_ixor rfl ?_
              refine b_iastore rfl (by first | rfl | assumption) (by first | assumption | exact nI_toInt (by omega) | exact hi_l0 | exact hi_l1 | exact hi_l2 | exact hi_l3 | exact hi_l4 | exact hi_l5 | exact hi_l6) (by omega) ?_
              have hT := hs_tie_x (k := k) (o := o) hX1 rfl
              refine b_aload_n rfl rfl ?_
              refine b_getR rfl (by first | rfl | assumption) rfl (by assumption) ?_
              refine b_getR rfl (by first | rfl | assumption) rfl (by assumption) ?_
              refine b_iload_n rfl rfl ?_
              refine b_iaload rfl (by first | rfl | assumption) (by first | assumption | exact nI_toInt (by omega) | exact hi_l0 | exact hi_l1 | exact hi_l2 | exact hi_l3 | exact hi_l4 | exact hi_l5 | exact hi_l6) (by omega) ?_
              rw [show hn_u I1 (44 + 1) k (qS U.1 k ^^^ ((1 : Int32) <<< (nI o &&& 31))) (44 + 1) = qS (sp_tie U.1 k o) from hT.1]
              refine b_iload_n rfl rfl ?_
              refine b_ishr rfl ?_
              refine b_iconst rfl ?_
              refine b_iand rfl ?_
              exact b_ireturn rfl trivial (⟨hs_ux_now ht f1 f2 p1 z1 (fun b hb => hn_u_ne _ _ _ (by omega)) hT (sp_tie_w hw0 hk ho n8 (fun e => hl (by rw [e]))) n8 n4, rfl⟩)
            · exact absurd c_18 hl
    · rw [u_tie, if_neg (fun z => hy z.2.1)]
      refine b_aload_n rfl rfl ?_
      refine b_iload_n rfl rfl ?_
      refine b_callV rfl rfl hk_X_isKnot rfl rfl rfl (by first | rfl | assumption) rfl (Nat.le_of_ble_eq_true rfl) (q_X_isKnot hA0) (Nat.le_of_ble_eq_true rfl) (fun r_2 D_2 q_2 => ?_)
      obtain ⟨rfl, hq⟩ := q_2
      rw [if_pos hx] at hq
      subst hq
      refine b_if_eq rfl (fun c_5 => ?_) (fun c_5 => ?_)
      · exact absurd c_5 (by decide)
      · refine b_aload_n rfl rfl ?_
        refine b_iload_n rfl rfl ?_
        refine b_callV rfl rfl hk_X_isKnot rfl rfl rfl (by first | rfl | assumption) rfl (Nat.le_of_ble_eq_true rfl) (q_X_isKnot hA0) (Nat.le_of_ble_eq_true rfl) (fun r_10 D_10 q_10 => ?_)
        obtain ⟨rfl, hq⟩ := q_10
        rw [if_neg hy] at hq
        subst hq
        refine b_if_eq rfl (fun c_13 => ?_) (fun c_13 => ?_)
        · refine b_iconst rfl ?_
          exact b_ireturn rfl trivial (⟨hs_ux_r hX0 hp hzs, rfl⟩)
        · exact absurd rfl c_13
  · rw [u_tie, if_neg (fun z => hx z.1)]
    refine b_aload_n rfl rfl ?_
    refine b_iload_n rfl rfl ?_
    refine b_callV rfl rfl hk_X_isKnot rfl rfl rfl (by first | rfl | assumption) rfl (Nat.le_of_ble_eq_true rfl) (q_X_isKnot hA0) (Nat.le_of_ble_eq_true rfl) (fun r_2 D_2 q_2 => ?_)
    obtain ⟨rfl, hq⟩ := q_2
    rw [if_neg hx] at hq
    subst hq
    refine b_if_eq rfl (fun c_5 => ?_) (fun c_5 => ?_)
    · refine b_iconst rfl ?_
      exact b_ireturn rfl trivial (⟨hs_ux_r hX0 hp hzs, rfl⟩)
    · exact absurd rfl c_5
theorem hs_ux_undo {I2 : Nat → Nat → Int32} {n nw : Nat} (ht : t = 4 ∨ t = 20) (hX0 : hs_Qx I 44 N.1 N.2.1 0 U.1) (hzs : hs_zs I) (hI2 : ∀ b, ¬ (44 ≤ b ∧ b ≤ 44 + 4) → I2 b = I b) (g1 : hs_Qx I2 44 N.1 N.2.1 0 (U.2.2 0)) (hw : hs_Qw n N.2.1 (U.2.2 0)) (n8 : n ≤ 8) (n4 : N.2.1 ≤ 4) (hnw : nw < 16) (plen : U.2.1 ≤ 16) (pe : ∀ j, j < U.2.1 → hs_Qx I (55 + 5 * ((nw + 16 - j) % 16)) N.1 N.2.1 0 (U.2.2 j)) (hl : 0 < U.2.1) : hs_ux t N I J R (U.2.2 0, U.2.1 - 1, fun j => U.2.2 (j + 1)) (hn_u (hn_u I2 0 10 (nI ((nw + 15) % 16))) 0 9 (nI (U.2.1 - 1)), J, R) := by
  have e : ∀ b, b ≠ 0 → hn_u (hn_u I2 0 10 (nI ((nw + 15) % 16))) 0 9 (nI (U.2.1 - 1)) b = I2 b := fun b hb => by rw [hn_u_ne _ _ _ hb, hn_u_ne _ _ _ hb]
  have k : ∀ a, a ∈ hs_sc → 0 < a ∧ (a = 44 ∨ a + 4 < 44 ∨ 48 < a) := by decide +kernel
  refine ⟨rfl, rfl, fun b hb => ?_, fun i h1 h2 => ?_, hs_Qx_fr g1 (fun b h1 h2 => e b (by omega)), ⟨(nw + 15) % 16, by omega, ?_, ?_, (show U.2.1 - 1 ≤ 16 by omega), fun j hj => ?_⟩, fun a ha => ?_⟩
  · unfold hs_uc at hb
    exact (e b (by omega)).trans (hI2 b (by omega))
  · show hn_u (hn_u I2 0 10 (nI ((nw + 15) % 16))) 0 9 (nI (U.2.1 - 1)) 0 i = I 0 i
    rw [hn_u_eq, va_up, if_neg h1, hn_u_eq, va_up, if_neg h2, hI2 0 (by omega)]
  · show hn_u (hn_u I2 0 10 (nI ((nw + 15) % 16))) 0 9 (nI (U.2.1 - 1)) 0 10 = _
    rw [hn_u_eq, va_up, if_neg (by omega), hn_u_eq, va_up, if_pos rfl]
  · show hn_u (hn_u I2 0 10 (nI ((nw + 15) % 16))) 0 9 (nI (U.2.1 - 1)) 0 9 = _
    rw [hn_u_eq, va_up, if_pos rfl]
  · simp only at hj
    have hm := pe (j + 1) (by omega)
    rw [show (nw + 16 - (j + 1)) % 16 = ((nw + 15) % 16 + 16 - j) % 16 by omega] at hm
    exact hs_Qx_fr hm (fun b h1 h2 => (e b (by omega)).trans (hI2 b (by omega)))
  · rcases (k a ha).2 with rfl | h
    · exact hs_z_fr (hs_z_of g1 hw n8 n4) (fun b h1 h2 => e b (by omega))
    · exact hs_z_fr (hzs a ha) (fun b h1 h2 => (e b (by have := (k a ha).1; omega)).trans (hI2 b (by omega)))
theorem q_X_undo (hA : hs_A I R t N U.1) (hzs : hs_zs I) (hp : hs_px I N.1 N.2.1 U.2.1 U.2.2) (hw2 : 0 < U.2.1 → hs_Qw N.1 N.2.1 (U.2.2 0)) : hn_F 2 hm_X_undo [.ref 0] (I, J, R) (fun r D' => hs_ux t N I J R (u_undo U).1 D' ∧ r = some (.int (u_undo U).2)) := by
  have hA0 := hA
  obtain ⟨hR, r2, ht, hN, hX, hw, hz, hAw⟩ := hA
  have hN0 := hN
  have hX0 := hX
  have hw0 := hw
  obtain ⟨n0, n8, n4, nk, nh, na, hc, ncd⟩ := hN
  obtain ⟨x1, x2, x3, x4, x5, x6, x7⟩ := hX
  obtain ⟨r6, r7, r8, r11, r12, r13, r14, r15, r16, r17, r18⟩ := hs_x0 hR
  have hSt := hs_St_of hR (show 44 ∈ hs_sc by decide)
  have hNt := hs_Net_of hR ht
  obtain ⟨_, sk0, sk1, sk2, sk3, sk4, g0, g1, g2, g3⟩ := id hSt
  obtain ⟨tt5, tn0, tn1, tn2, tn3, tn4, tn5, tn6, tn7, tn8, tn9, tn10, ts1, ts2, ts3, ts4, ts5, ts7, ts8, tl0, tl2, tl6, tl7⟩ := id hNt
  obtain ⟨nw, hnw, p10, p9, plen, pe⟩ := id hp
  have hkw : hn_kind 54 = (5, 16) := rfl
  have hw54 : R 54 nw = some (55 + 5 * nw) := hs_r54 hR hnw
  refine hn_F_of _ hk_X_undo rfl (Nat.le_of_ble_eq_true rfl) ?_
  by_cases hl : U.2.1 = 0
  · rw [u_undo, if_pos hl]
    refine b_aload_n rfl rfl ?_
    refine b_getI rfl (by first | rfl | assumption) rfl ?_
    rw [p9, hl]
    refine b_iconst rfl ?_
    refine b_icmp_ge rfl (fun c_5 => ?_) (fun c_5 => ?_)
    · exact absurd c_5 (by decide)
    · refine b_iconst rfl ?_
      exact b_ireturn rfl (by first | exact Or.inl rfl | exact Or.inr rfl | exact trivial) (⟨hs_ux_r hX0 hp hzs, rfl⟩)
  · rw [u_undo, if_neg hl]
    have e0 := pe 0 (by omega)
    rw [show (nw + 16 - 0) % 16 = nw by omega] at e0
    have erem : nI nw + 16 - 1 - (nI nw + 16 - 1) / 16 * 16 = nI ((nw + 15) % 16) := by
      rw [← hi_rem16 (by omega), show nI nw + 16 - 1 = nI (nw + 15) by rw [nI_ad, show (16 : Int32) = nI 15 + 1 by decide, ← Int32.add_assoc, Int32.add_sub_cancel]]
    refine b_aload_n rfl rfl ?_
    refine b_getI rfl (by first | rfl | assumption) rfl ?_
    rw [p9]
    refine b_iconst rfl ?_
    refine b_icmp_ge rfl (fun c_5 => ?_) (fun c_5 => ?_)
    · refine b_aload_n rfl rfl ?_
      refine b_getR rfl (by first | rfl | assumption) rfl (by assumption) ?_
      refine b_aload_n rfl rfl ?_
      refine b_getR rfl (by first | rfl | assumption) rfl (by assumption) ?_
      refine b_aload_n rfl rfl ?_
      refine b_getI rfl (by first | rfl | assumption) rfl ?_
      rw [p10]
      refine b_aaload rfl (by first | assumption | rfl) (by decide) (by first | assumption | exact nI_toInt (by omega) | exact hi_l0 | exact hi_l1 | exact hi_l2 | exact hi_l3 | exact hi_l4 | exact hi_l5 | exact hi_l6) (by omega) (by assumption) ?_
      refine b_callV rfl rfl hk_State_copy rfl rfl rfl (by first | rfl | assumption) rfl (Nat.le_of_ble_eq_true rfl) (qx_copy hSt (hs_St_of hR (hs_sc_p hnw)) (by omega) (hzs _ (by decide)) (hzs _ (hs_sc_p hnw)) e0) (Nat.le_of_ble_eq_true rfl) (fun r_23 D_23 q_23 => ?_)
      obtain ⟨rfl, hf, g1⟩ := q_23
      obtain ⟨I2, rfl, hI2⟩ := hf.out
      have e00 : I2 0 = I 0 := hI2 0 (by omega)
      refine b_aload_n rfl rfl ?_
      refine b_aload_n rfl rfl ?_
      refine b_getI rfl (by first | rfl | assumption) rfl ?_
      rw [show I2 0 10 = nI nw by rw [e00]; exact p10]
      refine b_bipush rfl ?_
      refine b_iadd rfl ?_
      refine b_iconst rfl ?_
      refine b_isub rfl ?_
      refine b_bipush rfl ?_
      refine b_irem rfl (by decide) ?_
      rw [erem]
      refine b_putI rfl (by first | rfl | assumption) rfl rfl ⟨rfl, rfl⟩ ?_
      refine b_aload_n rfl rfl ?_
      refine b_dup rfl rfl ?_
      refine b_getI rfl (by first | rfl | assumption) rfl ?_
      refine b_iconst rfl ?_
      rw [hn_u_eq, va_up, if_neg (by omega), e00, p9]
      refine b_isub rfl ?_
      rw [show nI U.2.1 - 1 = nI (U.2.1 - 1) by rw [show nI U.2.1 = nI (U.2.1 - 1) + 1 by rw [← @nI_succ (U.2.1 - 1)]; congr 1; omega, Int32.add_sub_cancel]]
      refine b_putI rfl (by first | rfl | assumption) rfl rfl ⟨rfl, rfl⟩ ?_
      refine b_iconst rfl ?_
      exact b_ireturn rfl (by first | exact Or.inl rfl | exact Or.inr rfl | exact trivial) (⟨hs_ux_undo ht hX0 hzs hI2 g1 (hw2 (by omega)) n8 n4 hnw plen pe (by omega), rfl⟩)
    · exact absurd (show nI 1 ≤ nI U.2.1 from nI_le (by omega) (by omega)) c_5
end
end HNhand
