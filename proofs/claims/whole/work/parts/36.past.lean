section HNpast
variable {I I' : Nat → Nat → Int32} {J J' : Nat → Nat → Int64} {R : Nat → Nat → Option Nat} {t : Nat} {N : sp_N} {Q Q' : sp_Q}
theorem q_M_sure (hB : hs_B I R N Q) : hn_F 2 hm_M_sure [.ref 188] (I, J, R) (fun r D' => hs_sm I J R D' ∧ r = some (.int (v_sure (nA N) N.1 8))) := by
  refine hn_F_of _ hk_M_sure rfl (Nat.le_of_ble_eq_true rfl) ?_
  refine b_aload_n rfl rfl ?_
  refine b_iconst rfl ?_
  refine b_putI rfl (by first | rfl | assumption) rfl rfl ⟨rfl, rfl⟩ ?_
  have hB1 := hs_B_0 (v := 0) hB
  have hs0 : hs_sm I J R (hn_u I 188 0 0, J, R) := hs_sm_0
  generalize hn_u I 188 0 0 = I0 at hB1 hs0 ⊢
  have hB2 := hB1
  obtain ⟨hR, hN, hQ, hfm, hw, hAw⟩ := hB1
  have hM := hs_M_of hR
  have hN0 := hN
  have hQ0 := hQ
  have hw0 := hw
  obtain ⟨⟨hn, n8, hnp, n4, hkn⟩, hL⟩ := hN
  obtain ⟨⟨_, hVs, hVw, hVp, hVh⟩, hVt⟩ := hQ
  simp only [Nat.zero_add] at hVs hVw hVp hVh
  obtain ⟨m1, m4, m5, m6, m9, m10, m11, m12, m14, m15, m16, m17, m20, m21, m22, m23, m25, m27, m28, m29, m30, m31, m32⟩ := id hM
  refine b_iconst rfl ?_
  refine b_istore_n rfl (Nat.le_of_ble_eq_true rfl) ?_
  refine b_iconst rfl ?_
  refine b_istore_n rfl (Nat.le_of_ble_eq_true rfl) ?_
  refine b_eq (sp_ind 8 (fun i => ∀ l1 l2, hn_B 2 hm_M_sure (fun r D' => hs_sm I J R D' ∧ r = some (.int (v_sure (nA N) N.1 8))) 9 [.ref 188, .int (v_sure (nA N) N.1 i), .int (nI i), l1, l2] [] (I0, J, R)) ?_ ?_ .null .null) (by rw [nI_0]; rfl) rfl rfl
  · intro l1 l2
    refine b_iload_n rfl rfl ?_
    refine b_bipush rfl ?_
    refine b_icmp_ge rfl (fun c_12 => ?_) (fun c_12 => ?_)
    · refine b_iload_n rfl rfl ?_
      exact b_ireturn rfl trivial (⟨hs0, rfl⟩)
    · exact absurd hi_88 c_12
  · intro i hi ih l1 l2
    have e : v_sure (nA N) N.1 (i + 1) = v_sure (nA N) N.1 i ||| sp_dfd (nA N) N.1 (v_sure (nA N) N.1 i) N.1 := rfl
    rw [e] at ih
    generalize v_sure (nA N) N.1 i = s at ih ⊢
    have hup := sp_or_up (c := fun k => sp_opk (nA N) N.1 k &&& (sp_union (nA N) s 8 ^^^ -1) = 0) s
    have L20 : hn_B 2 hm_M_sure (fun r D' => hs_sm I J R D' ∧ r = some (.int (v_sure (nA N) N.1 8))) 20 [.ref 188, .int s, .int (nI i), .int (sp_up (fun k z => if sp_opk (nA N) N.1 k &&& (sp_union (nA N) s 8 ^^^ -1) = 0 then z ||| ((1 : Int32) <<< (nI k &&& 31)) else z) s 0), .int (nI 0)] [] (I0, J, R) := by
      refine sp_ind N.1 (fun k => hn_B 2 hm_M_sure (fun r D' => hs_sm I J R D' ∧ r = some (.int (v_sure (nA N) N.1 8))) 20 [.ref 188, .int s, .int (nI i), .int (sp_up (fun k z => if sp_opk (nA N) N.1 k &&& (sp_union (nA N) s 8 ^^^ -1) = 0 then z ||| ((1 : Int32) <<< (nI k &&& 31)) else z) s k), .int (nI k)] [] (I0, J, R)) ?_ ?_
      · rw [hup]
        refine b_iload rfl rfl ?_
        refine b_aload_n rfl rfl ?_
        refine b_callV rfl rfl hk_M_knots rfl rfl rfl (by first | rfl | assumption) rfl (Nat.le_of_ble_eq_true rfl) (q_M_knots hM hn) (Nat.le_of_ble_eq_true rfl) (fun r_23 D_23 q_23 => ?_)
        obtain ⟨rfl, rfl⟩ := q_23
        refine b_icmp_ge rfl (fun c_26 => ?_) (fun c_26 => ?_)
        · refine b_iload_n rfl rfl ?_
          refine b_istore_n rfl (Nat.le_of_ble_eq_true rfl) ?_
          refine b_iinc rfl rfl (Nat.le_of_ble_eq_true rfl) ?_
          refine b_goto rfl ?_
          exact b_eq (ih _ _) (by rw [@nI_succ i]; rfl) rfl rfl
        · exact absurd (nI_le (Nat.le_refl _) (by omega)) c_26
      · intro k hk ih2
        refine b_iload rfl rfl ?_
        refine b_aload_n rfl rfl ?_
        refine b_callV rfl rfl hk_M_knots rfl rfl rfl (by first | rfl | assumption) rfl (Nat.le_of_ble_eq_true rfl) (q_M_knots hM hn) (Nat.le_of_ble_eq_true rfl) (fun r_23 D_23 q_23 => ?_)
        obtain ⟨rfl, rfl⟩ := q_23
        refine b_icmp_ge rfl (fun c_26 => ?_) (fun c_26 => ?_)
        · exact absurd c_26 (nI_ge hk (by omega))
        · refine b_iload_n rfl rfl ?_
          refine b_aload_n rfl rfl ?_
          refine b_iload rfl rfl ?_
          refine b_callV rfl rfl hk_M_opposedTo rfl rfl rfl (by first | rfl | assumption) rfl (Nat.le_of_ble_eq_true rfl) (q_M_opposedTo hB2 hk) (Nat.le_of_ble_eq_true rfl) (fun r_33 D_33 q_33 => ?_)
          obtain ⟨rfl, rfl⟩ := q_33
          refine b_aload_n rfl rfl ?_
          refine b_iload_n rfl rfl ?_
          refine b_callV rfl rfl hk_M_opposes rfl rfl rfl (by first | rfl | assumption) rfl (Nat.le_of_ble_eq_true rfl) (q_M_opposes hB2) (Nat.le_of_ble_eq_true rfl) (fun r_38 D_38 q_38 => ?_)
          obtain ⟨rfl, rfl⟩ := q_38
          refine b_iconst rfl ?_
          refine b_ixor rfl ?_
          refine b_iand rfl ?_
          refine b_if_ne rfl (fun c_44 => ?_) (fun c_44 => ?_)
          · refine b_iconst rfl ?_
            refine b_ior rfl ?_
            refine b_istore_n rfl (Nat.le_of_ble_eq_true rfl) ?_
            refine b_iinc rfl rfl (Nat.le_of_ble_eq_true rfl) ?_
            refine b_goto rfl ?_
            exact b_eq ih2 (by first | (simp only [@nI_succ k, sp_up, if_neg c_44, Int32.or_zero]; rfl) | (simp only [@nI_succ k, sp_up, if_pos c_44]; rfl)) rfl rfl
          · refine b_iconst rfl ?_
            refine b_iload rfl rfl ?_
            refine b_ishl rfl ?_
            refine b_goto rfl ?_
            refine b_ior rfl ?_
            refine b_istore_n rfl (Nat.le_of_ble_eq_true rfl) ?_
            refine b_iinc rfl rfl (Nat.le_of_ble_eq_true rfl) ?_
            refine b_goto rfl ?_
            exact b_eq ih2 (by first | (simp only [@nI_succ k, sp_up, if_neg c_44, Int32.or_zero]; rfl) | (simp only [@nI_succ k, sp_up, if_pos c_44]; rfl)) rfl rfl
    refine b_iload_n rfl rfl ?_
    refine b_bipush rfl ?_
    refine b_icmp_ge rfl (fun c_12 => ?_) (fun c_12 => ?_)
    · exact absurd c_12 (hi_ge8 hi)
    · refine b_iload_n rfl rfl ?_
      refine b_istore_n rfl (Nat.le_of_ble_eq_true rfl) ?_
      refine b_iconst rfl ?_
      refine b_istore rfl (Nat.le_of_ble_eq_true rfl) ?_
      exact b_eq L20 (by rw [nI_0]; rfl) rfl rfl
/-! what is undone -/
def sp_pl (len : Nat) : Nat := if len < 16 then len + 1 else 16
def sp_pe (Q : sp_Q) (e : Nat → sp_Q) : Nat → sp_Q
  | 0 => Q
  | j + 1 => e j
def hs_px (I : Nat → Nat → Int32) (n np len : Nat) (e : Nat → sp_Q) : Prop := ∃ nw : Nat, nw < 16 ∧ I 0 10 = nI nw ∧ I 0 9 = nI len ∧ len ≤ 16 ∧ ∀ j, j < len → hs_Qx I (55 + 5 * ((nw + 16 - j) % 16)) n np 0 (e j)
def hs_pm (I : Nat → Nat → Int32) (len : Nat) (e : Nat → sp_Q) : Prop := I 188 24 = nI len ∧ len ≤ 16 ∧ ∀ j, j < len → hs_Qm I (47 * (5 + (len - 1 - j))) (e j)
theorem hi_rem16 {a : Nat} (h : a < 32) : nI a - nI a / 16 * 16 = nI (a % 16) := by
  have k : ∀ a : Fin 32, nI a - nI a / 16 * 16 = nI (a.val % 16) := by decide +kernel
  exact k ⟨a, h⟩
theorem hs_sc_p {i : Nat} (h : i < 16) : 55 + 5 * i ∈ hs_sc := by
  have k : ∀ i : Fin 16, 55 + 5 * i.val ∈ hs_sc := by decide +kernel
  exact k ⟨i, h⟩
theorem hs_r54 {i : Nat} (hR : hs_refs R) (h : i < 16) : R 54 i = some (55 + 5 * i) := by
  have k : ∀ i : Fin 16, (54, i.val, 55 + 5 * i.val) ∈ hn_reft := by decide +kernel
  exact hR _ (k ⟨i, h⟩)
abbrev hs_zs (I : Nat → Nat → Int32) : Prop := ∀ a, a ∈ hs_sc → hs_z I a
theorem hs_Qx_fr {a n np : Nat} {fm : Int32} {q : sp_Q} (h : hs_Qx I a n np fm q) (hf : ∀ b, a ≤ b → b ≤ a + 4 → I' b = I b) : hs_Qx I' a n np fm q := by
  unfold hs_Qx
  rw [hf (a + 1) (by omega) (by omega), hf (a + 2) (by omega) (by omega), hf (a + 3) (by omega) (by omega), hf (a + 4) (by omega) (by omega), hf a (by omega) (by omega)]
  exact h
theorem hs_z_fr {a : Nat} (h : hs_z I a) (hf : ∀ b, a ≤ b → b ≤ a + 4 → I' b = I b) : hs_z I' a := by
  unfold hs_z
  rw [hf (a + 1) (by omega) (by omega), hf (a + 2) (by omega) (by omega), hf (a + 3) (by omega) (by omega), hf (a + 4) (by omega) (by omega)]
  exact h
theorem hs_A_0 {v : Int32} {i : Nat} (hA : hs_A I R t N Q) : hs_A (hn_u I 0 i v) R t N Q := by
  obtain ⟨hR, r2, ht, hN, hX, hw, hz, hAw⟩ := hA
  have e : ∀ b, b ≠ 0 → hn_u I 0 i v b = I b := fun b hb => hn_u_ne _ _ _ hb
  refine ⟨hR, r2, ht, ?_, hs_Qx_fr hX (fun b h1 h2 => e b (by omega)), hw, hs_z_fr hz (fun b h1 h2 => e b (by omega)), hAw⟩
  unfold hs_Nx hs_code
  rw [e t (by omega), e (t + 2) (by omega), e (t + 3) (by omega), e (t + 4) (by omega), e (t + 6) (by omega), e (t + 7) (by omega)]
  exact hN
theorem sp_pl_eq {len : Nat} (h : len ≤ 16) : (if nI len + 1 < 16 then nI len + 1 else 16) = nI (sp_pl len) := by
  have k : ∀ l : Fin 17, (if nI l + 1 < 16 then nI l + 1 else 16) = nI (sp_pl l) := by decide +kernel
  exact k ⟨len, by omega⟩
theorem hs_px_push {I1 I2 : Nat → Nat → Int32} {n np nw w len : Nat} {e : Nat → sp_Q} {v : Int32} (hnw : nw < 16) (hw1 : w < 16) (hwe : w = (nw + 1) % 16) (hI2 : ∀ b, ¬ (55 + 5 * w ≤ b ∧ b ≤ 55 + 5 * w + 4) → I2 b = I1 b) (f1 : ∀ b, b ≠ 0 → I1 b = I b) (f10 : I1 0 10 = nI w) (e0 : I2 0 = I1 0) (plen : len ≤ 16) (pe : ∀ j, j < len → hs_Qx I (55 + 5 * ((nw + 16 - j) % 16)) n np 0 (e j)) (g2 : hs_Qx I2 (55 + 5 * w) n np 0 Q) (hv : v = nI (sp_pl len)) : hs_px (hn_u I2 0 9 v) n np (sp_pl len) (sp_pe Q e) := by
  have hl : sp_pl len ≤ 16 ∧ (sp_pl len = len + 1 ∨ len = 16) := by unfold sp_pl; split <;> omega
  refine ⟨w, hw1, by rw [hn_u_eq, va_up, if_neg (by omega), e0]; exact f10, by rw [hn_u_eq, va_up, if_pos rfl]; exact hv, hl.1, fun j hj => ?_⟩
  cases j with
  | zero =>
    rw [show (w + 16 - 0) % 16 = w by omega]
    exact hs_Qx_fr g2 (fun b h1 h2 => hn_u_ne _ _ _ (by omega))
  | succ j =>
    have es : (w + 16 - (j + 1)) % 16 = (nw + 16 - j) % 16 := by omega
    have hne : (nw + 16 - j) % 16 ≠ w := by omega
    rw [es]
    exact hs_Qx_fr (pe j (by omega)) (fun b h1 h2 => by rw [hn_u_ne _ _ _ (by omega), hI2 b (by omega), f1 b (by omega)])
theorem hs_zs_push {I1 I2 : Nat → Nat → Int32} {n np w : Nat} {v : Int32} {fm : Int32} (hzs : hs_zs I) (hI2 : ∀ b, ¬ (55 + 5 * w ≤ b ∧ b ≤ 55 + 5 * w + 4) → I2 b = I1 b) (f1 : ∀ b, b ≠ 0 → I1 b = I b) (hw1 : w < 16) (g2 : hs_Qx I2 (55 + 5 * w) n np fm Q) (hw : hs_Qw n np Q) (n8 : n ≤ 8) (n4 : np ≤ 4) : hs_zs (hn_u I2 0 9 v) := by
  intro a ha
  have hp : ∀ a, a ∈ hs_sc → ∀ w : Fin 16, 0 < a ∧ (a = 55 + 5 * w.val ∨ a + 4 < 55 + 5 * w.val ∨ 55 + 5 * w.val + 4 < a) := by decide +kernel
  have h0 := (hp a ha ⟨w, hw1⟩).1
  have h1 : a = 55 + 5 * w ∨ a + 4 < 55 + 5 * w ∨ 55 + 5 * w + 4 < a := (hp a ha ⟨w, hw1⟩).2
  rcases h1 with rfl | h1
  · exact hs_z_fr (hs_z_of g2 hw n8 n4) (fun b h2 h3 => hn_u_ne _ _ _ (by omega))
  · exact hs_z_fr (hzs a ha) (fun b h2 h3 => by rw [hn_u_ne _ _ _ (by omega), hI2 b (by omega), f1 b (by omega)])
theorem q_X_remember {len : Nat} {e : Nat → sp_Q} (hA : hs_A I R t N Q) (hzs : hs_zs I) (hp : hs_px I N.1 N.2.1 len e) : hn_F 2 hm_X_remember [.ref 0] (I, J, R) (fun r D' => r = none ∧ ∃ I2, D' = (I2, J, R) ∧ (∀ b, b ≠ 0 → ¬ (55 ≤ b ∧ b < 135) → I2 b = I b) ∧ (∀ i, i ≠ 9 → i ≠ 10 → I2 0 i = I 0 i) ∧ hs_px I2 N.1 N.2.1 (sp_pl len) (sp_pe Q e) ∧ hs_zs I2) := by
  have hA0 := hA
  obtain ⟨hR, r2, ht, hN, hX, hw, hz, hAw⟩ := hA
  have hN0 := hN
  have hX0 := hX
  have hw0 := hw
  obtain ⟨n0, n8, n4, nk, nh, na, hc, ncd⟩ := hN
  obtain ⟨x1, x2, x3, x4, x5, x6, x7⟩ := hX
  obtain ⟨r6, r7, r8, r11, r12, r13, r14, r15, r16, r17, r18⟩ := hs_x0 hR
  have hSt := hs_St_of hR (show 44 ∈ hs_sc by decide)
  have hNt := hs_Net_of hR ht
  obtain ⟨_, sk0, sk1, sk2, sk3, sk4, g0, g1, g2, g3⟩ := id hSt
  obtain ⟨tt5, tn0, tn1, tn2, tn3, tn4, tn5, tn6, tn7, tn8, tn9, tn10, ts1, ts2, ts3, ts4, ts5, ts7, ts8, tl0, tl2, tl6, tl7⟩ := id hNt
  obtain ⟨nw, hnw, p10, p9, plen, pe⟩ := hp
  obtain ⟨w, hw1, hwe⟩ : ∃ w, w < 16 ∧ w = (nw + 1) % 16 := ⟨_, Nat.mod_lt _ (by omega), rfl⟩
  have erem : nI nw + 1 - (nI nw + 1) / 16 * 16 = nI w := by rw [hwe, ← hi_rem16 (by omega), @nI_succ nw]
  have hkw : hn_kind 54 = (5, 16) := rfl
  refine hn_F_of _ hk_X_remember rfl (Nat.le_of_ble_eq_true rfl) ?_
  refine b_aload_n rfl rfl ?_
  refine b_aload_n rfl rfl ?_
  refine b_getI rfl (by first | rfl | assumption) rfl ?_
  rw [p10]
  refine b_iconst rfl ?_
  refine b_iadd rfl ?_
  refine b_bipush rfl ?_
  refine b_irem rfl (by decide) ?_
  rw [erem]
  refine b_putI rfl (by first | rfl | assumption) rfl rfl ⟨rfl, rfl⟩ ?_
  obtain ⟨I1, hI1⟩ : ∃ z, z = hn_u I 0 10 (nI w) := ⟨_, rfl⟩
  rw [← hI1]
  have f1 : ∀ b, b ≠ 0 → I1 b = I b := fun b hb => by rw [hI1, hn_u_ne _ _ _ hb]
  have f10 : I1 0 10 = nI w := by rw [hI1, hn_u_eq]; rfl
  have f0 : ∀ i, i ≠ 10 → I1 0 i = I 0 i := fun i hi => by rw [hI1, hn_u_eq, va_up, if_neg hi]
  have hkw5 : hn_kind (55 + 5 * w) = (0, 5) := (hs_St_of hR (hs_sc_p hw1)).2.1
  have hw54 : R 54 w = some (55 + 5 * w) := hs_r54 hR hw1
  refine b_aload_n rfl rfl ?_
  refine b_getR rfl (by first | rfl | assumption) rfl (by assumption) ?_
  refine b_aload_n rfl rfl ?_
  refine b_getI rfl (by first | rfl | assumption) rfl ?_
  rw [f10]
  refine b_aaload rfl (by first | assumption | rfl) (by decide) (by first | assumption | exact nI_toInt (by omega) | exact hi_l0 | exact hi_l1 | exact hi_l2 | exact hi_l3 | exact hi_l4 | exact hi_l5 | exact hi_l6) (by omega) (by assumption) ?_
  refine b_aload_n rfl rfl ?_
  refine b_getR rfl (by first | rfl | assumption) rfl (by assumption) ?_
  refine b_callV rfl rfl hk_State_copy rfl rfl rfl (by first | rfl | assumption) rfl (Nat.le_of_ble_eq_true rfl) (qx_copy (hs_St_of hR (hs_sc_p hw1)) hSt (by omega) (hs_z_fr (hzs _ (hs_sc_p hw1)) (fun b h1 h2 => f1 b (by omega))) (hs_z_fr (hs_z_of hX0 hw0 n8 n4) (fun b h1 h2 => f1 b (by omega))) (hs_Qx_fr hX0 (fun b h1 h2 => f1 b (by omega)))) (Nat.le_of_ble_eq_true rfl) (fun r_26 D_26 q_26 => ?_)
  obtain ⟨rfl, hf2, g2⟩ := q_26
  obtain ⟨I2, rfl, hI2⟩ := hf2.out
  have e0 : I2 0 = I1 0 := hI2 0 (by omega)
  refine b_aload_n rfl rfl ?_
  refine b_bipush rfl ?_
  refine b_aload_n rfl rfl ?_
  refine b_getI rfl (by first | rfl | assumption) rfl ?_
  rw [show I2 0 9 = nI len by rw [e0, f0 9 (by omega)]; exact p9]
  refine b_iconst rfl ?_
  refine b_iadd rfl ?_
  refine b_mmin rfl rfl (by decide) (Nat.le_of_ble_eq_true rfl) ?_
  rw [show (if nI len + 1 < 16 then nI len + 1 else 16) = nI (sp_pl len) from sp_pl_eq plen]
  refine b_putI rfl (by first | rfl | assumption) rfl rfl ⟨rfl, rfl⟩ ?_
  exact b_return_ rfl trivial (⟨rfl, _, rfl, fun b hb h1 => by rw [hn_u_ne _ _ _ hb, hI2 b (by omega), f1 b hb], fun i h1 h2 => by rw [hn_u_eq, va_up, if_neg h1, e0, f0 i h2], hs_px_push hnw hw1 hwe hI2 f1 f10 e0 plen pe g2 rfl, hs_zs_push hzs hI2 f1 hw1 g2 hw0 n8 n4⟩)
end HNpast
