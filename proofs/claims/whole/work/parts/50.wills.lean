section HNwills
variable {I I' : Nat → Nat → Int32} {J J' : Nat → Nat → Int64} {R : Nat → Nat → Option Nat} {t : Nat} {N : sp_N} {Q Q' S : sp_Q} {U : sp_U} {V : sp_V}
def wl (N : sp_N) (s : Nat → Int32) (V : sp_V) : Nat → Int32 × Int32 × Int32 := sp_up (fun i a => if al_pos N s V (nI (i + 1)) then (a.1 + 1, if a.2.1 = -1 then nI (i + 1) else a.2.1, nI (i + 1)) else a) (0, -1, -1)
def v_wills (N : sp_N) (Q : sp_Q) (V : sp_V) (w : Int32) : Int32 := if w = 0 then (wl N (qS Q) V 40).1 else if w = 1 then (wl N (qS Q) V 40).2.1 else if w = 2 then (wl N (qS Q) V 40).2.2 else -1
theorem hs_x1_xs {b : Nat} (h : ¬ hs_xs t b) : ¬ hs_x1 t b := fun e => h (by unfold hs_x1 at e; unfold hs_xs; omega)
theorem hi_gt40 {i : Nat} (h : i < 40) : ¬ (40 : Int32) < nI (i + 1) := fun z => by
  have := (hi_lt (show (40 : Int32).toInt = 40 from rfl) (nI_toInt (n := i + 1) (by omega))).mp z
  omega
theorem q_X_wills {w : Int32} (hA : hs_A I R t N Q) (hV : hs_Vx I 135 V) (hVw : hs_Vw N.1 V) : hn_F 7 hm_X_wills [.ref 0, .int w] (I, J, R) (fun r D' => hs_sx t I J R D' ∧ r = some (.int (v_wills N Q V w))) := by
  have hA0 := hA
  obtain ⟨hR, r2, ht, hN, hX, hw, hz, hAw⟩ := hA
  have hN0 := hN
  have hX0 := hX
  have hw0 := hw
  obtain ⟨n0, n8, n4, nk, nh, na, hc, ncd⟩ := hN
  obtain ⟨x1, x2, x3, x4, x5, x6, x7⟩ := hX
  obtain ⟨r6, r7, r8, r11, r12, r13, r14, r15, r16, r17, r18⟩ := hs_x0 hR
  have hSt := hs_St_of hR (show 44 ∈ hs_sc by decide)
  have hNt := hs_Net_of hR ht
  obtain ⟨_, sk0, sk1, sk2, sk3, sk4, g0, g1, g2, g3⟩ := id hSt
  obtain ⟨tt5, tn0, tn1, tn2, tn3, tn4, tn5, tn6, tn7, tn8, tn9, tn10, ts1, ts2, ts3, ts4, ts5, ts7, ts8, tl0, tl2, tl6, tl7⟩ := id hNt
  have t2 : (2 : Int32).toInt = 2 := rfl
  refine hn_F_of _ hk_X_wills rfl (Nat.le_of_ble_eq_true rfl) ?_
  by_cases hw9 : 0 ≤ w.toInt ∧ w.toInt ≤ 2
  · obtain ⟨P, hPd⟩ : ∃ P : Option Value → hnD → Prop, P = (fun r D' => hs_sx t I J R D' ∧ r = some (.int (v_wills N Q V w))) := ⟨_, rfl⟩
    rw [← hPd]
    have lp : ∀ I', (∀ b, ¬ hs_x1 t b → I' b = I b) → hs_z I' 49 → hn_B 7 hm_X_wills P 21 [.ref 0, .int w, .int (wl N (qS Q) V 0).1, .int (wl N (qS Q) V 0).2.1, .int (wl N (qS Q) V 0).2.2, .int (nI (0 + 1))] [] (I', J, R) := by
      refine sp_ind 40 (fun i => ∀ I', (∀ b, ¬ hs_x1 t b → I' b = I b) → hs_z I' 49 → hn_B 7 hm_X_wills P 21 [.ref 0, .int w, .int (wl N (qS Q) V i).1, .int (wl N (qS Q) V i).2.1, .int (wl N (qS Q) V i).2.2, .int (nI (i + 1))] [] (I', J, R)) ?_ ?_
      · intro I' hf hz'
        have hsx : hs_sx t I J R (I', J, R) := ⟨rfl, fun b hb => hf b (hs_x1_xs hb), fun _ _ _ _ => rfl, hz'⟩
        refine b_iload rfl rfl ?_
        refine b_bipush rfl ?_
        refine b_icmp_gt rfl (fun c_25 => ?_) (fun c_25 => ?_)
        · refine b_iload_n rfl rfl ?_
          refine b_if_ne rfl (fun c_66 => ?_) (fun c_66 => ?_)
          · refine b_iload_n rfl rfl ?_
            refine b_iconst rfl ?_
            refine b_icmp_ne rfl (fun c_73 => ?_) (fun c_73 => ?_)
            · refine b_iload rfl rfl ?_
              exact b_ireturn rfl trivial ((by rw [hPd]; first | exact ⟨hsx, by rw [v_wills, if_neg c_66, if_pos c_73]⟩ | exact ⟨hsx, by rw [v_wills, if_neg c_66, if_neg c_73, if_pos (hi_eq (x := w) (y := 2) (by have h1 : ¬ w.toInt = 0 := (fun z => c_66 (hi_eq z)); have h2 : ¬ w.toInt = 1 := (fun z => c_73 (hi_eq z)); rw [t2]; omega))]⟩))
            · refine b_iload_n rfl rfl ?_
              refine b_goto rfl ?_
              exact b_ireturn rfl trivial ((by rw [hPd]; first | exact ⟨hsx, by rw [v_wills, if_neg c_66, if_pos c_73]⟩ | exact ⟨hsx, by rw [v_wills, if_neg c_66, if_neg c_73, if_pos (hi_eq (x := w) (y := 2) (by have h1 : ¬ w.toInt = 0 := (fun z => c_66 (hi_eq z)); have h2 : ¬ w.toInt = 1 := (fun z => c_73 (hi_eq z)); rw [t2]; omega))]⟩))
          · refine b_iload_n rfl rfl ?_
            exact b_ireturn rfl trivial ((by rw [hPd]; exact ⟨hsx, by rw [v_wills, if_pos c_66]⟩))
        · exact absurd (show (40 : Int32) < nI (40 + 1) by decide) c_25
      · intro i hi ih I' hf hz'
        have hA' := hs_A_fr hA0 (fun b hb => hf b (hs_x1_xs hb)) hz'
        have hV' := hs_Vx_x1 hV ht hf
        have hcall := q_X_isPossible (J := J) (w := nI (i + 1)) hA' hV' hVw
        have hs : wl N (qS Q) V (i + 1) = if al_pos N (qS Q) V (nI (i + 1)) then ((wl N (qS Q) V i).1 + 1, if (wl N (qS Q) V i).2.1 = -1 then nI (i + 1) else (wl N (qS Q) V i).2.1, nI (i + 1)) else wl N (qS Q) V i := rfl
        rw [hs] at ih
        by_cases hp : al_pos N (qS Q) V (nI (i + 1))
        · rw [if_pos hp] at ih
          by_cases hl : (wl N (qS Q) V i).2.1 = -1
          · rw [if_pos hl] at ih
            refine b_iload rfl rfl ?_
            refine b_bipush rfl ?_
            refine b_icmp_gt rfl (fun c_25 => ?_) (fun c_25 => ?_)
            · exact absurd c_25 (hi_gt40 hi)
            · refine b_aload_n rfl rfl ?_
              refine b_iload rfl rfl ?_
              refine b_callV rfl rfl hk_X_isPossible rfl rfl rfl (by first | rfl | assumption) rfl (Nat.le_of_ble_eq_true rfl) (hcall) (Nat.le_of_ble_eq_true rfl) (fun r_31 D_31 q_31 => ?_)
              obtain ⟨⟨I2, rfl, hf2, hz2, _⟩, hq⟩ := q_31
              have hq := (hq.resolve_right (fun z => z.1 hp)).2
              subst hq
              refine b_if_ne rfl (fun c_34 => ?_) (fun c_34 => ?_)
              · refine b_iinc rfl rfl (Nat.le_of_ble_eq_true rfl) ?_
                refine b_iload_n rfl rfl ?_
                refine b_iconst rfl ?_
                refine b_icmp_ne rfl (fun c_45 => ?_) (fun c_45 => ?_)
                · exact absurd hl c_45
                · refine b_iload rfl rfl ?_
                  refine b_goto rfl ?_
                  refine b_istore_n rfl (Nat.le_of_ble_eq_true rfl) ?_
                  refine b_iload rfl rfl ?_
                  refine b_istore rfl (Nat.le_of_ble_eq_true rfl) ?_
                  refine b_iinc rfl rfl (Nat.le_of_ble_eq_true rfl) ?_
                  refine b_goto rfl ?_
                  exact b_lp (ih I2 (fun b hb => (hf2 b hb).trans (hf b hb)) hz2) (le_e (le_e (le_e (le_e (le_e (le_q (by rw [nI_succ]) le_0)))))) rfl rfl
              · exact absurd c_34 (by decide)
          · rw [if_neg hl] at ih
            refine b_iload rfl rfl ?_
            refine b_bipush rfl ?_
            refine b_icmp_gt rfl (fun c_25 => ?_) (fun c_25 => ?_)
            · exact absurd c_25 (hi_gt40 hi)
            · refine b_aload_n rfl rfl ?_
              refine b_iload rfl rfl ?_
              refine b_callV rfl rfl hk_X_isPossible rfl rfl rfl (by first | rfl | assumption) rfl (Nat.le_of_ble_eq_true rfl) (hcall) (Nat.le_of_ble_eq_true rfl) (fun r_31 D_31 q_31 => ?_)
              obtain ⟨⟨I2, rfl, hf2, hz2, _⟩, hq⟩ := q_31
              have hq := (hq.resolve_right (fun z => z.1 hp)).2
              subst hq
              refine b_if_ne rfl (fun c_34 => ?_) (fun c_34 => ?_)
              · refine b_iinc rfl rfl (Nat.le_of_ble_eq_true rfl) ?_
                refine b_iload_n rfl rfl ?_
                refine b_iconst rfl ?_
                refine b_icmp_ne rfl (fun c_45 => ?_) (fun c_45 => ?_)
                · refine b_iload_n rfl rfl ?_
                  refine b_istore_n rfl (Nat.le_of_ble_eq_true rfl) ?_
                  refine b_iload rfl rfl ?_
                  refine b_istore rfl (Nat.le_of_ble_eq_true rfl) ?_
                  refine b_iinc rfl rfl (Nat.le_of_ble_eq_true rfl) ?_
                  refine b_goto rfl ?_
                  exact b_lp (ih I2 (fun b hb => (hf2 b hb).trans (hf b hb)) hz2) (le_e (le_e (le_e (le_e (le_e (le_q (by rw [nI_succ]) le_0)))))) rfl rfl
                · exact absurd c_45 hl
              · exact absurd c_34 (by decide)
        · rw [if_neg hp] at ih
          refine b_iload rfl rfl ?_
          refine b_bipush rfl ?_
          refine b_icmp_gt rfl (fun c_25 => ?_) (fun c_25 => ?_)
          · exact absurd c_25 (hi_gt40 hi)
          · refine b_aload_n rfl rfl ?_
            refine b_iload rfl rfl ?_
            refine b_callV rfl rfl hk_X_isPossible rfl rfl rfl (by first | rfl | assumption) rfl (Nat.le_of_ble_eq_true rfl) (hcall) (Nat.le_of_ble_eq_true rfl) (fun r_31 D_31 q_31 => ?_)
            obtain ⟨⟨I2, rfl, hf2, hz2, _⟩, hq⟩ := q_31
            have hq := (hq.resolve_left (fun z => hp z.1)).2
            subst hq
            refine b_if_ne rfl (fun c_34 => ?_) (fun c_34 => ?_)
            · exact absurd rfl c_34
            · refine b_goto rfl ?_
              refine b_iinc rfl rfl (Nat.le_of_ble_eq_true rfl) ?_
              refine b_goto rfl ?_
              exact b_lp (ih I2 (fun b hb => (hf2 b hb).trans (hf b hb)) hz2) (le_e (le_e (le_e (le_e (le_e (le_q (by rw [nI_succ]) le_0)))))) rfl rfl
    refine b_iload_n rfl rfl ?_
    refine b_if_lt rfl (fun c_1 => ?_) (fun c_1 => ?_)
    · exact absurd ((hi_lt rfl hi_t0).mp c_1) (by omega)
    · refine b_iload_n rfl rfl ?_
      refine b_iconst rfl ?_
      refine b_icmp_le rfl (fun c_6 => ?_) (fun c_6 => ?_)
      · refine b_iconst rfl ?_
        refine b_istore_n rfl (Nat.le_of_ble_eq_true rfl) ?_
        refine b_iconst rfl ?_
        refine b_istore_n rfl (Nat.le_of_ble_eq_true rfl) ?_
        refine b_iconst rfl ?_
        refine b_istore rfl (Nat.le_of_ble_eq_true rfl) ?_
        refine b_iconst rfl ?_
        refine b_istore rfl (Nat.le_of_ble_eq_true rfl) ?_
        exact b_lp (lp I (fun _ _ => rfl) hz) (le_e (le_e (le_e (le_e (le_e (le_e le_0)))))) rfl rfl
      · exact absurd ((hi_le rfl t2).mpr hw9.2) c_6
  · have hv : v_wills N Q V w = -1 := by
      rw [v_wills, if_neg (fun z => hw9 (by rw [z]; decide)), if_neg (fun z => hw9 (by rw [z]; decide)), if_neg (fun z => hw9 (by rw [z]; decide))]
    rw [hv]
    refine b_iload_n rfl rfl ?_
    refine b_if_lt rfl (fun c_1 => ?_) (fun c_1 => ?_)
    · refine b_iconst rfl ?_
      exact b_ireturn rfl trivial (⟨hs_sx_r hz, rfl⟩)
    · refine b_iload_n rfl rfl ?_
      refine b_iconst rfl ?_
      refine b_icmp_le rfl (fun c_6 => ?_) (fun c_6 => ?_)
      · exact absurd ⟨by have := mt (hi_lt (x := w) rfl hi_t0).mpr c_1; omega, (hi_le rfl t2).mp c_6⟩ hw9
      · refine b_iconst rfl ?_
        exact b_ireturn rfl trivial (⟨hs_sx_r hz, rfl⟩)
/-! the reference's -/
theorem al_stuck {s : Nat → Int32} {z : sp_Z} (h : ¬ (¬ z.2.1 = -1 ∧ 0 < z.1) ∨ al_pk N s z = none) : al_step N s z = z := by
  unfold al_step
  by_cases ha : ¬ z.2.1 = -1 ∧ 0 < z.1
  · rw [if_pos ha, h.resolve_left (fun y => y ha)]
  · rw [if_neg ha]
abbrev al_st (N : sp_N) (s : Nat → Int32) (z : sp_Z) : Prop := ¬ (¬ z.2.1 = -1 ∧ 0 < z.1) ∨ al_pk N s z = none
theorem al_move {s : Nat → Int32} {z : sp_Z} {k : Nat} (ha : ¬ z.2.1 = -1 ∧ 0 < z.1) (hp : al_pk N s z = some k) : al_step N s z = (al_w N k z, if sp_fall (nK N) (nH N) 0 k (al_w N k z) then -1 else nI k, z.2.2 + 1) := by
  unfold al_step
  rw [if_pos ha, hp]
/-- what the reference's lone walk may change -/
abbrev hs_y1 (b : Nat) : Prop := b = 202 ∨ b = 203 ∨ b = 210
theorem hs_B_y {I' : Nat → Nat → Int32} (hB : hs_B I R N Q) (hf : ∀ b, ¬ (b = 202 ∨ b = 203 ∨ (206 ≤ b ∧ b ≤ 211)) → I' b = I b) : hs_B I' R N Q := by
  obtain ⟨hR, hN, hQ, hfm, hw, hAw⟩ := hB
  refine ⟨hR, ?_, ?_, ?_, hw, hAw⟩
  · unfold hs_Nm hs_MN hs_ML
    rw [hf 194 (by omega), hf 195 (by omega), hf 196 (by omega)]
    exact hN
  · unfold hs_Qm hs_V
    rw [hf 204 (by omega)]
    exact hQ
  · rw [hf 188 (by omega)]; exact hfm
theorem q_M_goesAlone {w f : Int32} (hB : hs_B I R N Q) (hf0 : ∃ q, q < N.1 ∧ f = nI q) : hn_F 4 hm_M_goesAlone [.ref 188, .int f, .int w] (I, J, R) (fun r D' => r = none ∧ ∃ I2, D' = (I2, J, R) ∧ (∀ b, ¬ hs_y1 b → I2 b = I b) ∧ ∀ i, i ≤ 30 → I2 210 i = (al N (qS Q) w f i).2.1) := by
  have hR9 := hB.1
  have hM9 := hs_M_of hR9
  have n8 : N.1 ≤ 8 := hB.2.1.1.2.1
  have hns := hB.2.2.2.2.1.2.2.2.1
  obtain ⟨m1, m4, m5, m6, m9, m10, m11, m12, m14, m15, m16, m17, m20, m21, m22, m23, m25, m27, m28, m29, m30, m31, m32⟩ := id hM9
  have hpls := al_pls (s := qS Q) (w := w) (N := N) (f := f) (Or.inr hf0)
  refine hn_F_of _ hk_M_goesAlone rfl (Nat.le_of_ble_eq_true rfl) ?_
  obtain ⟨P, hPd⟩ : ∃ P : Option Value → hnD → Prop, P = (fun r D' => r = none ∧ ∃ I2, D' = (I2, J, R) ∧ (∀ b, ¬ hs_y1 b → I2 b = I b) ∧ ∀ i, i ≤ 30 → I2 210 i = (al N (qS Q) w f i).2.1) := ⟨_, rfl⟩
  rw [← hPd]
  have lp : ∀ I', (∀ b, ¬ hs_y1 b → I' b = I b) → (∀ i, i < 0 → I' 210 i = (al N (qS Q) w f i).2.1) → ((al N (qS Q) w f 0).2.2 = nI 0 ∨ al_st N (qS Q) (al N (qS Q) w f 0)) → hn_B 4 hm_M_goesAlone P 8 [.ref 188, .int f, .int w, .int (al N (qS Q) w f 0).2.1, .int (al N (qS Q) w f 0).1, .int (nI 0), .null] [] (I', J, R) := by
    refine sp_ind 31 (fun k => ∀ I', (∀ b, ¬ hs_y1 b → I' b = I b) → (∀ i, i < k → I' 210 i = (al N (qS Q) w f i).2.1) → ((al N (qS Q) w f k).2.2 = nI k ∨ al_st N (qS Q) (al N (qS Q) w f k)) → hn_B 4 hm_M_goesAlone P 8 [.ref 188, .int f, .int w, .int (al N (qS Q) w f k).2.1, .int (al N (qS Q) w f k).1, .int (nI k), .null] [] (I', J, R)) ?_ ?_
    · intro I' hf hall _
      refine b_iload rfl rfl ?_
      refine b_bipush rfl ?_
      refine b_icmp_gt rfl (fun c_12 => ?_) (fun c_12 => ?_)
      · exact b_return_ rfl trivial ((by rw [hPd]; exact ⟨rfl, I', rfl, hf, fun i hi => hall i (by omega)⟩))
      · exact absurd (show (30 : Int32) < nI 31 by decide) c_12
    · intro k hk ih I' hf hall hst
      have hs : al N (qS Q) w f (k + 1) = al_step N (qS Q) (al N (qS Q) w f k) := rfl
      rw [hs] at ih
      have hpl := hpls k
      have hall2 : ∀ I2 : Nat → Nat → Int32, I2 210 = va_up (I' 210) k (al N (qS Q) w f k).2.1 → ∀ i, i < k + 1 → I2 210 i = (al N (qS Q) w f i).2.1 := fun I2 e i hi => by rw [e]; exact al_row (pa := fun i => (al N (qS Q) w f i).2.1) rfl hall hi
      have hst2 : al_st N (qS Q) (al N (qS Q) w f k) → (al_step N (qS Q) (al N (qS Q) w f k)).2.2 = nI (k + 1) ∨ al_st N (qS Q) (al_step N (qS Q) (al N (qS Q) w f k)) := fun h => Or.inr (by rw [al_stuck h]; exact h)
      have c12 : ¬ (30 : Int32) < nI k := fun z => by
        have := (hi_lt (show (30 : Int32).toInt = 30 from rfl) (nI_toInt (n := k) (by omega))).mp z
        omega
      generalize al N (qS Q) w f k = z at ih hpl hall2 hst hst2 ⊢
      obtain ⟨zw, zp, zh⟩ := z
      simp only at hall2 hst
      obtain ⟨I1, hI1⟩ : ∃ y, y = hn_u I' 210 k zp := ⟨_, rfl⟩
      have f1 : ∀ b, ¬ hs_y1 b → I1 b = I b := fun b hb => by rw [hI1, hn_u_ne _ _ _ (fun e => hb (Or.inr (Or.inr e)))]; exact hf b hb
      have e210 : I1 210 = va_up (I' 210) k zp := by rw [hI1, hn_u_eq]
      have hB1 := hs_B_y hB (I' := I1) (fun b hb => f1 b (fun e => hb (by unfold hs_y1 at e; omega)))
      obtain ⟨_, hN1, hQ1, hfm1, _⟩ := id hB1
      by_cases ha : ¬ zp = -1 ∧ 0 < zw
      · obtain ⟨q, hq, eq⟩ : ∃ q, q < N.1 ∧ zp = nI q := hpl.resolve_left ha.1
        have hpk : al_pk N (qS Q) (zw, zp, zh) = sp_pick (nH N) (qS Q q) (nI 0 = -1) N.1 := by show sp_pick (nH N) (qS Q zp.toNatClampNeg) _ _ = _; rw [eq, nI_clamp (by omega)]
        have hnext : hn_F 1 hm_M_nextOf [.ref 188, .int (qS Q q), .int 0] (I1, J, R) (fun r D' => D' = (I1, J, R) ∧ r = some (.int (sp_enc (sp_pick (nH N) (qS Q q) (nI 0 = -1) N.1)))) := q_M_nextOf (nI 0 = -1) hM9 hN1.1 (by rw [if_neg (by decide)])
        cases hp : sp_pick (nH N) (qS Q q) (nI 0 = -1) N.1 with
        | none =>
          have hstk : al_st N (qS Q) (zw, zp, zh) := Or.inr (hpk.trans hp)
          have hst2 := hst2 hstk
          rw [al_stuck hstk] at ih hst2
          rw [hp] at hnext
          refine b_iload rfl rfl ?_
          refine b_bipush rfl ?_
          refine b_icmp_gt rfl (fun c_12 => ?_) (fun c_12 => ?_)
          · exact absurd c_12 c12
          · refine b_aload_n rfl rfl ?_
            refine b_getR rfl (by first | rfl | assumption) rfl (by assumption) ?_
            refine b_iload rfl rfl ?_
            refine b_iload_n rfl rfl ?_
            refine b_iastore rfl (by first | rfl | assumption) (by first | assumption | exact nI_toInt (by omega) | exact hi_l0 | exact hi_l1 | exact hi_l2 | exact hi_l3 | exact hi_l4 | exact hi_l5 | exact hi_l6) (by omega) ?_
            rw [← hI1]
            refine b_iload_n rfl rfl ?_
            refine b_if_lt rfl (fun c_24 => ?_) (fun c_24 => ?_)
            · exact absurd c_24 (by rw [eq]; exact fun z => by have := (hi_lt (nI_toInt (n := q) (by omega)) hi_t0).mp z; omega)
            · refine b_iload rfl rfl ?_
              refine b_if_le rfl (fun c_29 => ?_) (fun c_29 => ?_)
              · exact absurd ha.2 (Int32.not_lt.mpr c_29)
              · refine b_aload_n rfl rfl ?_
                refine b_aload_n rfl rfl ?_
                refine b_iload_n rfl rfl ?_
                rw [eq]
                refine b_callV rfl rfl hk_M_stringsFrom rfl rfl rfl (by first | rfl | assumption) rfl (Nat.le_of_ble_eq_true rfl) (q_M_stringsFrom hB1 (show q < 8 by omega)) (Nat.le_of_ble_eq_true rfl) (fun r_35 D_35 q_35 => ?_)
                obtain ⟨rfl, rfl⟩ := q_35
                refine b_iconst rfl ?_
                refine b_callV rfl rfl hk_M_nextOf rfl rfl rfl (by first | rfl | assumption) rfl (Nat.le_of_ble_eq_true rfl) (hnext) (Nat.le_of_ble_eq_true rfl) (fun r_39 D_39 q_39 => ?_)
                obtain ⟨rfl, rfl⟩ := q_39
                refine b_goto rfl ?_
                refine b_istore rfl (Nat.le_of_ble_eq_true rfl) ?_
                refine b_iload rfl rfl ?_
                refine b_if_lt rfl (fun c_50 => ?_) (fun c_50 => ?_)
                · refine b_iinc rfl rfl (Nat.le_of_ble_eq_true rfl) ?_
                  refine b_goto rfl ?_
                  exact b_lp (ih I1 f1 (hall2 I1 e210) hst2) (le_e (le_e (le_e (le_q (by rw [eq]) (le_e (le_q (by rw [nI_succ]) (le_n le_0))))))) rfl rfl
                · exact absurd (show sp_enc none < 0 by decide) c_50
        | some j =>
          have hj := sp_pick_lt _ _ _ _ _ hp
          have hzh : zh = nI k := hst.resolve_right (fun h => h.elim (fun y => y ha) (fun y => by rw [hpk, hp] at y; cases y))
          have hmv := al_move (z := (zw, zp, zh)) ha (hpk.trans hp)
          rw [hmv] at ih
          rw [hp] at hnext
          have hw : ∀ I2, I2 = I1 → True := fun _ _ => trivial
          by_cases hfl : sp_fall (nK N) (nH N) 0 j (al_w N j (zw, zp, zh))
          · rw [if_pos hfl] at ih
            refine b_iload rfl rfl ?_
            refine b_bipush rfl ?_
            refine b_icmp_gt rfl (fun c_12 => ?_) (fun c_12 => ?_)
            · exact absurd c_12 c12
            · refine b_aload_n rfl rfl ?_
              refine b_getR rfl (by first | rfl | assumption) rfl (by assumption) ?_
              refine b_iload rfl rfl ?_
              refine b_iload_n rfl rfl ?_
              refine b_iastore rfl (by first | rfl | assumption) (by first | assumption | exact nI_toInt (by omega) | exact hi_l0 | exact hi_l1 | exact hi_l2 | exact hi_l3 | exact hi_l4 | exact hi_l5 | exact hi_l6) (by omega) ?_
              rw [← hI1]
              refine b_iload_n rfl rfl ?_
              refine b_if_lt rfl (fun c_24 => ?_) (fun c_24 => ?_)
              · exact absurd c_24 (by rw [eq]; exact fun z => by have := (hi_lt (nI_toInt (n := q) (by omega)) hi_t0).mp z; omega)
              · refine b_iload rfl rfl ?_
                refine b_if_le rfl (fun c_29 => ?_) (fun c_29 => ?_)
                · exact absurd ha.2 (Int32.not_lt.mpr c_29)
                · refine b_aload_n rfl rfl ?_
                  refine b_aload_n rfl rfl ?_
                  refine b_iload_n rfl rfl ?_
                  rw [eq]
                  refine b_callV rfl rfl hk_M_stringsFrom rfl rfl rfl (by first | rfl | assumption) rfl (Nat.le_of_ble_eq_true rfl) (q_M_stringsFrom hB1 (show q < 8 by omega)) (Nat.le_of_ble_eq_true rfl) (fun r_35 D_35 q_35 => ?_)
                  obtain ⟨rfl, rfl⟩ := q_35
                  refine b_iconst rfl ?_
                  refine b_callV rfl rfl hk_M_nextOf rfl rfl rfl (by first | rfl | assumption) rfl (Nat.le_of_ble_eq_true rfl) (hnext) (Nat.le_of_ble_eq_true rfl) (fun r_39 D_39 q_39 => ?_)
                  obtain ⟨rfl, rfl⟩ := q_39
                  rw [show sp_enc (some j) = nI j from rfl]
                  refine b_goto rfl ?_
                  refine b_istore rfl (Nat.le_of_ble_eq_true rfl) ?_
                  refine b_iload rfl rfl ?_
                  refine b_if_lt rfl (fun c_50 => ?_) (fun c_50 => ?_)
                  · exact absurd c_50 (fun z => by have := (hi_lt (nI_toInt (n := j) (by omega)) hi_t0).mp z; omega)
                  · refine b_aload_n rfl rfl ?_
                    refine b_iload rfl rfl ?_
                    refine b_iload rfl rfl ?_
                    refine b_iload rfl rfl ?_
                    refine b_iconst rfl ?_
                    refine b_callV rfl rfl hk_M_willBy rfl rfl rfl (by first | rfl | assumption) rfl (Nat.le_of_ble_eq_true rfl) (q_M_willBy hM9 hN1.1 hN1.2 hj) (Nat.le_of_ble_eq_true rfl) (fun r_61 D_61 q_61 => ?_)
                    obtain ⟨hf9, hq9⟩ := q_61
                    obtain ⟨I2, rfl, hI2⟩ := hf9.out
                    rw [hfm1, ← hzh] at hq9
                    subst hq9
                    have hB2 := hs_B_y hB (I' := I2) (fun b hb => by rw [hI2 b (by omega)]; exact f1 b (fun e => hb (by unfold hs_y1 at e; omega)))
                    refine b_istore rfl (Nat.le_of_ble_eq_true rfl) ?_
                    refine b_aload_n rfl rfl ?_
                    refine b_iload rfl rfl ?_
                    refine b_iload rfl rfl ?_
                    refine b_callV rfl rfl hk_M_doesFall rfl rfl rfl (by first | rfl | assumption) rfl (Nat.le_of_ble_eq_true rfl) (q_M_doesFall hM9 hB2.2.1.1 hj) (Nat.le_of_ble_eq_true rfl) (fun r_71 D_71 q_71 => ?_)
                    obtain ⟨rfl, hq9⟩ := q_71
                    rw [hB2.2.2.2.1, if_pos hfl] at hq9
                    subst hq9
                    refine b_if_eq rfl (fun c_74 => ?_) (fun c_74 => ?_)
                    · exact absurd c_74 (by decide)
                    · refine b_iconst rfl ?_
                      refine b_goto rfl ?_
                      refine b_istore_n rfl (Nat.le_of_ble_eq_true rfl) ?_
                      refine b_iinc rfl rfl (Nat.le_of_ble_eq_true rfl) ?_
                      refine b_goto rfl ?_
                      exact b_lp (ih I2 (fun b hb => by rw [hI2 b (fun e => hb (by unfold hs_y1; omega))]; exact f1 b hb) (hall2 I2 (by rw [hI2 210 (by omega)]; exact e210)) (Or.inl (by rw [hzh, nI_succ]))) (le_e (le_e (le_e (le_e (le_e (le_q (by rw [nI_succ]) (le_n le_0))))))) rfl rfl
          · rw [if_neg hfl] at ih
            refine b_iload rfl rfl ?_
            refine b_bipush rfl ?_
            refine b_icmp_gt rfl (fun c_12 => ?_) (fun c_12 => ?_)
            · exact absurd c_12 c12
            · refine b_aload_n rfl rfl ?_
              refine b_getR rfl (by first | rfl | assumption) rfl (by assumption) ?_
              refine b_iload rfl rfl ?_
              refine b_iload_n rfl rfl ?_
              refine b_iastore rfl (by first | rfl | assumption) (by first | assumption | exact nI_toInt (by omega) | exact hi_l0 | exact hi_l1 | exact hi_l2 | exact hi_l3 | exact hi_l4 | exact hi_l5 | exact hi_l6) (by omega) ?_
              rw [← hI1]
              refine b_iload_n rfl rfl ?_
              refine b_if_lt rfl (fun c_24 => ?_) (fun c_24 => ?_)
              · exact absurd c_24 (by rw [eq]; exact fun z => by have := (hi_lt (nI_toInt (n := q) (by omega)) hi_t0).mp z; omega)
              · refine b_iload rfl rfl ?_
                refine b_if_le rfl (fun c_29 => ?_) (fun c_29 => ?_)
                · exact absurd ha.2 (Int32.not_lt.mpr c_29)
                · refine b_aload_n rfl rfl ?_
                  refine b_aload_n rfl rfl ?_
                  refine b_iload_n rfl rfl ?_
                  rw [eq]
                  refine b_callV rfl rfl hk_M_stringsFrom rfl rfl rfl (by first | rfl | assumption) rfl (Nat.le_of_ble_eq_true rfl) (q_M_stringsFrom hB1 (show q < 8 by omega)) (Nat.le_of_ble_eq_true rfl) (fun r_35 D_35 q_35 => ?_)
                  obtain ⟨rfl, rfl⟩ := q_35
                  refine b_iconst rfl ?_
                  refine b_callV rfl rfl hk_M_nextOf rfl rfl rfl (by first | rfl | assumption) rfl (Nat.le_of_ble_eq_true rfl) (hnext) (Nat.le_of_ble_eq_true rfl) (fun r_39 D_39 q_39 => ?_)
                  obtain ⟨rfl, rfl⟩ := q_39
                  rw [show sp_enc (some j) = nI j from rfl]
                  refine b_goto rfl ?_
                  refine b_istore rfl (Nat.le_of_ble_eq_true rfl) ?_
                  refine b_iload rfl rfl ?_
                  refine b_if_lt rfl (fun c_50 => ?_) (fun c_50 => ?_)
                  · exact absurd c_50 (fun z => by have := (hi_lt (nI_toInt (n := j) (by omega)) hi_t0).mp z; omega)
                  · refine b_aload_n rfl rfl ?_
                    refine b_iload rfl rfl ?_
                    refine b_iload rfl rfl ?_
                    refine b_iload rfl rfl ?_
                    refine b_iconst rfl ?_
                    refine b_callV rfl rfl hk_M_willBy rfl rfl rfl (by first | rfl | assumption) rfl (Nat.le_of_ble_eq_true rfl) (q_M_willBy hM9 hN1.1 hN1.2 hj) (Nat.le_of_ble_eq_true rfl) (fun r_61 D_61 q_61 => ?_)
                    obtain ⟨hf9, hq9⟩ := q_61
                    obtain ⟨I2, rfl, hI2⟩ := hf9.out
                    rw [hfm1, ← hzh] at hq9
                    subst hq9
                    have hB2 := hs_B_y hB (I' := I2) (fun b hb => by rw [hI2 b (by omega)]; exact f1 b (fun e => hb (by unfold hs_y1 at e; omega)))
                    refine b_istore rfl (Nat.le_of_ble_eq_true rfl) ?_
                    refine b_aload_n rfl rfl ?_
                    refine b_iload rfl rfl ?_
                    refine b_iload rfl rfl ?_
                    refine b_callV rfl rfl hk_M_doesFall rfl rfl rfl (by first | rfl | assumption) rfl (Nat.le_of_ble_eq_true rfl) (q_M_doesFall hM9 hB2.2.1.1 hj) (Nat.le_of_ble_eq_true rfl) (fun r_71 D_71 q_71 => ?_)
                    obtain ⟨rfl, hq9⟩ := q_71
                    rw [hB2.2.2.2.1, if_neg hfl] at hq9
                    subst hq9
                    refine b_if_eq rfl (fun c_74 => ?_) (fun c_74 => ?_)
                    · refine b_iload rfl rfl ?_
                      refine b_istore_n rfl (Nat.le_of_ble_eq_true rfl) ?_
                      refine b_iinc rfl rfl (Nat.le_of_ble_eq_true rfl) ?_
                      refine b_goto rfl ?_
                      exact b_lp (ih I2 (fun b hb => by rw [hI2 b (fun e => hb (by unfold hs_y1; omega))]; exact f1 b hb) (hall2 I2 (by rw [hI2 210 (by omega)]; exact e210)) (Or.inl (by rw [hzh, nI_succ]))) (le_e (le_e (le_e (le_e (le_e (le_q (by rw [nI_succ]) (le_n le_0))))))) rfl rfl
                    · exact absurd rfl c_74
      · have hstk : al_st N (qS Q) (zw, zp, zh) := Or.inl ha
        have hst2 := hst2 hstk
        rw [al_stuck hstk] at ih hst2
        by_cases hz1 : zp = -1
        · refine b_iload rfl rfl ?_
          refine b_bipush rfl ?_
          refine b_icmp_gt rfl (fun c_12 => ?_) (fun c_12 => ?_)
          · exact absurd c_12 c12
          · refine b_aload_n rfl rfl ?_
            refine b_getR rfl (by first | rfl | assumption) rfl (by assumption) ?_
            refine b_iload rfl rfl ?_
            refine b_iload_n rfl rfl ?_
            refine b_iastore rfl (by first | rfl | assumption) (by first | assumption | exact nI_toInt (by omega) | exact hi_l0 | exact hi_l1 | exact hi_l2 | exact hi_l3 | exact hi_l4 | exact hi_l5 | exact hi_l6) (by omega) ?_
            rw [← hI1]
            refine b_iload_n rfl rfl ?_
            refine b_if_lt rfl (fun c_24 => ?_) (fun c_24 => ?_)
            · refine b_iconst rfl ?_
              refine b_istore rfl (Nat.le_of_ble_eq_true rfl) ?_
              refine b_iload rfl rfl ?_
              refine b_if_lt rfl (fun c_50 => ?_) (fun c_50 => ?_)
              · refine b_iinc rfl rfl (Nat.le_of_ble_eq_true rfl) ?_
                refine b_goto rfl ?_
                exact b_lp (ih I1 f1 (hall2 I1 e210) hst2) (le_e (le_e (le_e (le_e (le_e (le_q (by rw [nI_succ]) (le_n le_0))))))) rfl rfl
              · exact absurd (show (-1 : Int32) < 0 by decide) c_50
            · exact absurd (by show zp < 0; rw [hz1]; decide) c_24
        · have hw0 : ¬ 0 < zw := fun h => ha ⟨hz1, h⟩
          refine b_iload rfl rfl ?_
          refine b_bipush rfl ?_
          refine b_icmp_gt rfl (fun c_12 => ?_) (fun c_12 => ?_)
          · exact absurd c_12 c12
          · refine b_aload_n rfl rfl ?_
            refine b_getR rfl (by first | rfl | assumption) rfl (by assumption) ?_
            refine b_iload rfl rfl ?_
            refine b_iload_n rfl rfl ?_
            refine b_iastore rfl (by first | rfl | assumption) (by first | assumption | exact nI_toInt (by omega) | exact hi_l0 | exact hi_l1 | exact hi_l2 | exact hi_l3 | exact hi_l4 | exact hi_l5 | exact hi_l6) (by omega) ?_
            rw [← hI1]
            refine b_iload_n rfl rfl ?_
            refine b_if_lt rfl (fun c_24 => ?_) (fun c_24 => ?_)
            · refine b_iconst rfl ?_
              refine b_istore rfl (Nat.le_of_ble_eq_true rfl) ?_
              refine b_iload rfl rfl ?_
              refine b_if_lt rfl (fun c_50 => ?_) (fun c_50 => ?_)
              · refine b_iinc rfl rfl (Nat.le_of_ble_eq_true rfl) ?_
                refine b_goto rfl ?_
                exact b_lp (ih I1 f1 (hall2 I1 e210) hst2) (le_e (le_e (le_e (le_e (le_e (le_q (by rw [nI_succ]) (le_n le_0))))))) rfl rfl
              · exact absurd (show (-1 : Int32) < 0 by decide) c_50
            · refine b_iload rfl rfl ?_
              refine b_if_le rfl (fun c_29 => ?_) (fun c_29 => ?_)
              · refine b_iconst rfl ?_
                refine b_istore rfl (Nat.le_of_ble_eq_true rfl) ?_
                refine b_iload rfl rfl ?_
                refine b_if_lt rfl (fun c_50 => ?_) (fun c_50 => ?_)
                · refine b_iinc rfl rfl (Nat.le_of_ble_eq_true rfl) ?_
                  refine b_goto rfl ?_
                  exact b_lp (ih I1 f1 (hall2 I1 e210) hst2) (le_e (le_e (le_e (le_e (le_e (le_q (by rw [nI_succ]) (le_n le_0))))))) rfl rfl
                · exact absurd (show (-1 : Int32) < 0 by decide) c_50
              · exact absurd (Int32.not_lt.mp hw0) c_29
  refine b_iload_n rfl rfl ?_
  refine b_istore_n rfl (Nat.le_of_ble_eq_true rfl) ?_
  refine b_iload_n rfl rfl ?_
  refine b_istore rfl (Nat.le_of_ble_eq_true rfl) ?_
  refine b_iconst rfl ?_
  refine b_istore rfl (Nat.le_of_ble_eq_true rfl) ?_
  exact b_lp (lp I (fun _ _ => rfl) (fun i hi => absurd hi (by omega)) (Or.inl rfl)) (le_e (le_e (le_e (le_e (le_e (le_q (by rw [nI_0]) (le_n le_0))))))) rfl rfl
theorem q_M_isAsSeen {w : Int32} (hB : hs_B I R N Q) (hV : hs_Vm I 0 V) (hVw : hs_Vw N.1 V) (h0 : ¬ V.2.1 = 0) : hn_F 5 hm_M_isAsSeen [.ref 188, .int w] (I, J, R) (fun r D' => (∃ I2, D' = (I2, J, R) ∧ (∀ b, ¬ hs_y1 b → I2 b = I b) ∧ ∀ i, i ≤ 30 → I2 210 i = (al N (qS Q) w V.1 i).2.1) ∧ ((al_pos N (qS Q) V w ∧ r = some (.int 1)) ∨ (¬ al_pos N (qS Q) V w ∧ r = some (.int 0)))) := by
  have hR9 := hB.1
  have hM9 := hs_M_of hR9
  obtain ⟨m1, m4, m5, m6, m9, m10, m11, m12, m14, m15, m16, m17, m20, m21, m22, m23, m25, m27, m28, m29, m30, m31, m32⟩ := id hM9
  obtain ⟨v1, v2, v3, v4⟩ := hV
  have v1 : I 204 21 = nI V.2.1 := v1
  have v3 : I 204 22 = V.1 := v3 (by omega)
  have i21 : (21 : Int32).toInt = ((21 : Nat) : Int) := rfl
  have i22 : (22 : Int32).toInt = ((22 : Nat) : Int) := rfl
  refine hn_F_of _ hk_M_isAsSeen rfl (Nat.le_of_ble_eq_true rfl) ?_
  obtain ⟨P, hPd⟩ : ∃ P : Option Value → hnD → Prop, P = (fun r D' => (∃ I2, D' = (I2, J, R) ∧ (∀ b, ¬ hs_y1 b → I2 b = I b) ∧ ∀ i, i ≤ 30 → I2 210 i = (al N (qS Q) w V.1 i).2.1) ∧ ((al_pos N (qS Q) V w ∧ r = some (.int 1)) ∨ (¬ al_pos N (qS Q) V w ∧ r = some (.int 0)))) := ⟨_, rfl⟩
  rw [← hPd]
  obtain ⟨pa, hpa⟩ : ∃ pa : Nat → Int32, pa = fun i => (al N (qS Q) w V.1 i).2.1 := ⟨_, rfl⟩
  have lp : ∀ I', (∀ b, ¬ hs_y1 b → I' b = I b) → (∀ i, i ≤ 30 → I' 210 i = pa i) → ∀ b : Int32, ((b = 1 ∧ ∀ i, i < 0 → (pa (V.2.2.2.1 i).toNatClampNeg = V.2.2.1 i ↔ V.2.2.2.2 i = 1)) ∨ (b = 0 ∧ ¬ al_ok pa V)) → hn_B 5 hm_M_isAsSeen P 16 [.ref 188, .int w, .int b, .int (nI 0), .null] [] (I', J, R) := by
    intro I' hf hp
    have hf2 : I' 204 = I 204 := hf 204 (by unfold hs_y1; omega)
    refine sp_ind V.2.1 (fun k => ∀ b : Int32, ((b = 1 ∧ ∀ i, i < k → (pa (V.2.2.2.1 i).toNatClampNeg = V.2.2.1 i ↔ V.2.2.2.2 i = 1)) ∨ (b = 0 ∧ ¬ al_ok pa V)) → hn_B 5 hm_M_isAsSeen P 16 [.ref 188, .int w, .int b, .int (nI k), .null] [] (I', J, R)) ?_ ?_
    · intro b hb
      rcases hb with ⟨rfl, hall⟩ | ⟨rfl, hno⟩
      · refine b_iload_n rfl rfl ?_
        refine b_aload_n rfl rfl ?_
        refine b_getR rfl (by first | rfl | assumption) rfl (by assumption) ?_
        refine b_bipush rfl ?_
        refine b_iaload rfl (by first | rfl | assumption) i21 (by omega) ?_
        rw [hf2, v1]
        refine b_icmp_ge rfl (fun c_24 => ?_) (fun c_24 => ?_)
        · refine b_iload_n rfl rfl ?_
          exact b_ireturn rfl (by first | exact Or.inl rfl | exact Or.inr rfl | exact trivial) ((by rw [hPd]; exact ⟨⟨I', rfl, hf, fun i hi => by rw [hp i hi, hpa]⟩, Or.inl ⟨Or.inr (by rw [← hpa]; exact hall), rfl⟩⟩))
        · exact absurd (nI_le (Nat.le_refl _) (by omega)) c_24
      · refine b_iload_n rfl rfl ?_
        refine b_aload_n rfl rfl ?_
        refine b_getR rfl (by first | rfl | assumption) rfl (by assumption) ?_
        refine b_bipush rfl ?_
        refine b_iaload rfl (by first | rfl | assumption) i21 (by omega) ?_
        rw [hf2, v1]
        refine b_icmp_ge rfl (fun c_24 => ?_) (fun c_24 => ?_)
        · refine b_iload_n rfl rfl ?_
          exact b_ireturn rfl (by first | exact Or.inl rfl | exact Or.inr rfl | exact trivial) ((by rw [hPd]; exact ⟨⟨I', rfl, hf, fun i hi => by rw [hp i hi, hpa]⟩, Or.inr ⟨fun h => h.elim h0 (by rw [← hpa]; exact hno), rfl⟩⟩))
        · exact absurd (nI_le (Nat.le_refl _) (by omega)) c_24
    · intro k hk ih b hb
      obtain ⟨j, hj, ej⟩ := hVw.2.1 k hk
      obtain ⟨e1, e2, e3⟩ := v4 k hk
      have e1 : I' 204 (23 + 3 * k) = V.2.2.1 k := by rw [hf2, ← e1]
      have e2 : I' 204 (23 + 3 * k + 1) = nI j := by rw [hf2, ← ej, ← e2]; congr 1; omega
      have e3 : I' 204 (23 + 3 * k + 2) = V.2.2.2.2 k := by rw [hf2, ← e3]; congr 1; omega
      have e9 : pa (V.2.2.2.1 k).toNatClampNeg = pa j := by rw [ej, nI_clamp (by omega)]
      rcases hb with ⟨rfl, hall⟩ | ⟨rfl, hno⟩
      · have good : (pa j = V.2.2.1 k ↔ V.2.2.2.2 k = 1) → hn_B 5 hm_M_isAsSeen P 16 [.ref 188, .int w, .int 1, .int (nI (k + 1)), .null] [] (I', J, R) := by
          intro hg
          refine ih 1 (Or.inl ⟨rfl, fun i hi => ?_⟩)
          by_cases e : i = k
          · subst e; rw [e9]; exact hg
          · exact hall i (by omega)
        have bad : ¬ (pa j = V.2.2.1 k ↔ V.2.2.2.2 k = 1) → hn_B 5 hm_M_isAsSeen P 16 [.ref 188, .int w, .int 0, .int (nI (k + 1)), .null] [] (I', J, R) := fun hg => ih 0 (Or.inr ⟨rfl, fun h => hg (by rw [← e9]; exact h k hk)⟩)
        by_cases ca : pa j = V.2.2.1 k
        · by_cases cb : V.2.2.2.2 k = 1
          · refine b_iload_n rfl rfl ?_
            refine b_aload_n rfl rfl ?_
            refine b_getR rfl (by first | rfl | assumption) rfl (by assumption) ?_
            refine b_bipush rfl ?_
            refine b_iaload rfl (by first | rfl | assumption) i21 (by omega) ?_
            rw [hf2, v1]
            refine b_icmp_ge rfl (fun c_24 => ?_) (fun c_24 => ?_)
            · exact absurd c_24 (nI_ge hk (by omega))
            · refine b_bipush rfl ?_
              refine b_iconst rfl ?_
              refine b_iload_n rfl rfl ?_
              refine b_imul rfl ?_
              refine b_iadd rfl ?_
              rw [nI_23]
              refine b_istore rfl (Nat.le_of_ble_eq_true rfl) ?_
              refine b_iload_n rfl rfl ?_
              refine b_if_eq rfl (fun c_36 => ?_) (fun c_36 => ?_)
              · exact absurd c_36 (by decide)
              · refine b_aload_n rfl rfl ?_
                refine b_getR rfl (by first | rfl | assumption) rfl (by assumption) ?_
                refine b_aload_n rfl rfl ?_
                refine b_getR rfl (by first | rfl | assumption) rfl (by assumption) ?_
                refine b_iload rfl rfl ?_
                refine b_iconst rfl ?_
                refine b_iadd rfl ?_
                refine b_iaload rfl (by first | rfl | assumption) (hi_ix (23 + 3 * k + 1) (by rw [nI_ad (23 + 3 * k)]; rfl) (by omega)) (by omega) ?_
                rw [e2]
                refine b_iaload rfl (by first | rfl | assumption) (by first | assumption | exact nI_toInt (by omega) | exact hi_l0 | exact hi_l1 | exact hi_l2 | exact hi_l3 | exact hi_l4 | exact hi_l5 | exact hi_l6) (by omega) ?_
                rw [hp j hj]
                refine b_aload_n rfl rfl ?_
                refine b_getR rfl (by first | rfl | assumption) rfl (by assumption) ?_
                refine b_iload rfl rfl ?_
                refine b_iaload rfl (by first | rfl | assumption) (by first | assumption | exact nI_toInt (by omega) | exact hi_l0 | exact hi_l1 | exact hi_l2 | exact hi_l3 | exact hi_l4 | exact hi_l5 | exact hi_l6) (by omega) ?_
                rw [e1]
                refine b_icmp_ne rfl (fun c_60 => ?_) (fun c_60 => ?_)
                · exact absurd ca c_60
                · refine b_iconst rfl ?_
                  refine b_goto rfl ?_
                  refine b_aload_n rfl rfl ?_
                  refine b_getR rfl (by first | rfl | assumption) rfl (by assumption) ?_
                  refine b_iload rfl rfl ?_
                  refine b_iconst rfl ?_
                  refine b_iadd rfl ?_
                  refine b_iaload rfl (by first | rfl | assumption) (hi_ix (23 + 3 * k + 2) (by rw [nI_ad (23 + 3 * k)]; rfl) (by omega)) (by omega) ?_
                  rw [e3]
                  refine b_iconst rfl ?_
                  refine b_icmp_ne rfl (fun c_78 => ?_) (fun c_78 => ?_)
                  · exact absurd cb c_78
                  · refine b_iconst rfl ?_
                    refine b_goto rfl ?_
                    refine b_icmp_ne rfl (fun c_86 => ?_) (fun c_86 => ?_)
                    · exact absurd rfl c_86
                    · refine b_iconst rfl ?_
                      refine b_goto rfl ?_
                      refine b_istore_n rfl (Nat.le_of_ble_eq_true rfl) ?_
                      refine b_iinc rfl rfl (Nat.le_of_ble_eq_true rfl) ?_
                      refine b_goto rfl ?_
                      exact b_lp (good ⟨fun _ => cb, fun _ => ca⟩) (le_e (le_e (le_e (le_q (by rw [nI_succ]) (le_n le_0))))) rfl rfl
          · refine b_iload_n rfl rfl ?_
            refine b_aload_n rfl rfl ?_
            refine b_getR rfl (by first | rfl | assumption) rfl (by assumption) ?_
            refine b_bipush rfl ?_
            refine b_iaload rfl (by first | rfl | assumption) i21 (by omega) ?_
            rw [hf2, v1]
            refine b_icmp_ge rfl (fun c_24 => ?_) (fun c_24 => ?_)
            · exact absurd c_24 (nI_ge hk (by omega))
            · refine b_bipush rfl ?_
              refine b_iconst rfl ?_
              refine b_iload_n rfl rfl ?_
              refine b_imul rfl ?_
              refine b_iadd rfl ?_
              rw [nI_23]
              refine b_istore rfl (Nat.le_of_ble_eq_true rfl) ?_
              refine b_iload_n rfl rfl ?_
              refine b_if_eq rfl (fun c_36 => ?_) (fun c_36 => ?_)
              · exact absurd c_36 (by decide)
              · refine b_aload_n rfl rfl ?_
                refine b_getR rfl (by first | rfl | assumption) rfl (by assumption) ?_
                refine b_aload_n rfl rfl ?_
                refine b_getR rfl (by first | rfl | assumption) rfl (by assumption) ?_
                refine b_iload rfl rfl ?_
                refine b_iconst rfl ?_
                refine b_iadd rfl ?_
                refine b_iaload rfl (by first | rfl | assumption) (hi_ix (23 + 3 * k + 1) (by rw [nI_ad (23 + 3 * k)]; rfl) (by omega)) (by omega) ?_
                rw [e2]
                refine b_iaload rfl (by first | rfl | assumption) (by first | assumption | exact nI_toInt (by omega) | exact hi_l0 | exact hi_l1 | exact hi_l2 | exact hi_l3 | exact hi_l4 | exact hi_l5 | exact hi_l6) (by omega) ?_
                rw [hp j hj]
                refine b_aload_n rfl rfl ?_
                refine b_getR rfl (by first | rfl | assumption) rfl (by assumption) ?_
                refine b_iload rfl rfl ?_
                refine b_iaload rfl (by first | rfl | assumption) (by first | assumption | exact nI_toInt (by omega) | exact hi_l0 | exact hi_l1 | exact hi_l2 | exact hi_l3 | exact hi_l4 | exact hi_l5 | exact hi_l6) (by omega) ?_
                rw [e1]
                refine b_icmp_ne rfl (fun c_60 => ?_) (fun c_60 => ?_)
                · exact absurd ca c_60
                · refine b_iconst rfl ?_
                  refine b_goto rfl ?_
                  refine b_aload_n rfl rfl ?_
                  refine b_getR rfl (by first | rfl | assumption) rfl (by assumption) ?_
                  refine b_iload rfl rfl ?_
                  refine b_iconst rfl ?_
                  refine b_iadd rfl ?_
                  refine b_iaload rfl (by first | rfl | assumption) (hi_ix (23 + 3 * k + 2) (by rw [nI_ad (23 + 3 * k)]; rfl) (by omega)) (by omega) ?_
                  rw [e3]
                  refine b_iconst rfl ?_
                  refine b_icmp_ne rfl (fun c_78 => ?_) (fun c_78 => ?_)
                  · refine b_iconst rfl ?_
                    refine b_icmp_ne rfl (fun c_86 => ?_) (fun c_86 => ?_)
                    · refine b_iconst rfl ?_
                      refine b_istore_n rfl (Nat.le_of_ble_eq_true rfl) ?_
                      refine b_iinc rfl rfl (Nat.le_of_ble_eq_true rfl) ?_
                      refine b_goto rfl ?_
                      exact b_lp (bad (fun z => cb (z.mp ca))) (le_e (le_e (le_e (le_q (by rw [nI_succ]) (le_n le_0))))) rfl rfl
                    · exact absurd c_86 (by decide)
                  · exact absurd c_78 cb
        · by_cases cb : V.2.2.2.2 k = 1
          · refine b_iload_n rfl rfl ?_
            refine b_aload_n rfl rfl ?_
            refine b_getR rfl (by first | rfl | assumption) rfl (by assumption) ?_
            refine b_bipush rfl ?_
            refine b_iaload rfl (by first | rfl | assumption) i21 (by omega) ?_
            rw [hf2, v1]
            refine b_icmp_ge rfl (fun c_24 => ?_) (fun c_24 => ?_)
            · exact absurd c_24 (nI_ge hk (by omega))
            · refine b_bipush rfl ?_
              refine b_iconst rfl ?_
              refine b_iload_n rfl rfl ?_
              refine b_imul rfl ?_
              refine b_iadd rfl ?_
              rw [nI_23]
              refine b_istore rfl (Nat.le_of_ble_eq_true rfl) ?_
              refine b_iload_n rfl rfl ?_
              refine b_if_eq rfl (fun c_36 => ?_) (fun c_36 => ?_)
              · exact absurd c_36 (by decide)
              · refine b_aload_n rfl rfl ?_
                refine b_getR rfl (by first | rfl | assumption) rfl (by assumption) ?_
                refine b_aload_n rfl rfl ?_
                refine b_getR rfl (by first | rfl | assumption) rfl (by assumption) ?_
                refine b_iload rfl rfl ?_
                refine b_iconst rfl ?_
                refine b_iadd rfl ?_
                refine b_iaload rfl (by first | rfl | assumption) (hi_ix (23 + 3 * k + 1) (by rw [nI_ad (23 + 3 * k)]; rfl) (by omega)) (by omega) ?_
                rw [e2]
                refine b_iaload rfl (by first | rfl | assumption) (by first | assumption | exact nI_toInt (by omega) | exact hi_l0 | exact hi_l1 | exact hi_l2 | exact hi_l3 | exact hi_l4 | exact hi_l5 | exact hi_l6) (by omega) ?_
                rw [hp j hj]
                refine b_aload_n rfl rfl ?_
                refine b_getR rfl (by first | rfl | assumption) rfl (by assumption) ?_
                refine b_iload rfl rfl ?_
                refine b_iaload rfl (by first | rfl | assumption) (by first | assumption | exact nI_toInt (by omega) | exact hi_l0 | exact hi_l1 | exact hi_l2 | exact hi_l3 | exact hi_l4 | exact hi_l5 | exact hi_l6) (by omega) ?_
                rw [e1]
                refine b_icmp_ne rfl (fun c_60 => ?_) (fun c_60 => ?_)
                · refine b_iconst rfl ?_
                  refine b_aload_n rfl rfl ?_
                  refine b_getR rfl (by first | rfl | assumption) rfl (by assumption) ?_
                  refine b_iload rfl rfl ?_
                  refine b_iconst rfl ?_
                  refine b_iadd rfl ?_
                  refine b_iaload rfl (by first | rfl | assumption) (hi_ix (23 + 3 * k + 2) (by rw [nI_ad (23 + 3 * k)]; rfl) (by omega)) (by omega) ?_
                  rw [e3]
                  refine b_iconst rfl ?_
                  refine b_icmp_ne rfl (fun c_78 => ?_) (fun c_78 => ?_)
                  · exact absurd cb c_78
                  · refine b_iconst rfl ?_
                    refine b_goto rfl ?_
                    refine b_icmp_ne rfl (fun c_86 => ?_) (fun c_86 => ?_)
                    · refine b_iconst rfl ?_
                      refine b_istore_n rfl (Nat.le_of_ble_eq_true rfl) ?_
                      refine b_iinc rfl rfl (Nat.le_of_ble_eq_true rfl) ?_
                      refine b_goto rfl ?_
                      exact b_lp (bad (fun z => ca (z.mpr cb))) (le_e (le_e (le_e (le_q (by rw [nI_succ]) (le_n le_0))))) rfl rfl
                    · exact absurd c_86 (by decide)
                · exact absurd c_60 ca
          · refine b_iload_n rfl rfl ?_
            refine b_aload_n rfl rfl ?_
            refine b_getR rfl (by first | rfl | assumption) rfl (by assumption) ?_
            refine b_bipush rfl ?_
            refine b_iaload rfl (by first | rfl | assumption) i21 (by omega) ?_
            rw [hf2, v1]
            refine b_icmp_ge rfl (fun c_24 => ?_) (fun c_24 => ?_)
            · exact absurd c_24 (nI_ge hk (by omega))
            · refine b_bipush rfl ?_
              refine b_iconst rfl ?_
              refine b_iload_n rfl rfl ?_
              refine b_imul rfl ?_
              refine b_iadd rfl ?_
              rw [nI_23]
              refine b_istore rfl (Nat.le_of_ble_eq_true rfl) ?_
              refine b_iload_n rfl rfl ?_
              refine b_if_eq rfl (fun c_36 => ?_) (fun c_36 => ?_)
              · exact absurd c_36 (by decide)
              · refine b_aload_n rfl rfl ?_
                refine b_getR rfl (by first | rfl | assumption) rfl (by assumption) ?_
                refine b_aload_n rfl rfl ?_
                refine b_getR rfl (by first | rfl | assumption) rfl (by assumption) ?_
                refine b_iload rfl rfl ?_
                refine b_iconst rfl ?_
                refine b_iadd rfl ?_
                refine b_iaload rfl (by first | rfl | assumption) (hi_ix (23 + 3 * k + 1) (by rw [nI_ad (23 + 3 * k)]; rfl) (by omega)) (by omega) ?_
                rw [e2]
                refine b_iaload rfl (by first | rfl | assumption) (by first | assumption | exact nI_toInt (by omega) | exact hi_l0 | exact hi_l1 | exact hi_l2 | exact hi_l3 | exact hi_l4 | exact hi_l5 | exact hi_l6) (by omega) ?_
                rw [hp j hj]
                refine b_aload_n rfl rfl ?_
                refine b_getR rfl (by first | rfl | assumption) rfl (by assumption) ?_
                refine b_iload rfl rfl ?_
                refine b_iaload rfl (by first | rfl | assumption) (by first | assumption | exact nI_toInt (by omega) | exact hi_l0 | exact hi_l1 | exact hi_l2 | exact hi_l3 | exact hi_l4 | exact hi_l5 | exact hi_l6) (by omega) ?_
                rw [e1]
                refine b_icmp_ne rfl (fun c_60 => ?_) (fun c_60 => ?_)
                · refine b_iconst rfl ?_
                  refine b_aload_n rfl rfl ?_
                  refine b_getR rfl (by first | rfl | assumption) rfl (by assumption) ?_
                  refine b_iload rfl rfl ?_
                  refine b_iconst rfl ?_
                  refine b_iadd rfl ?_
                  refine b_iaload rfl (by first | rfl | assumption) (hi_ix (23 + 3 * k + 2) (by rw [nI_ad (23 + 3 * k)]; rfl) (by omega)) (by omega) ?_
                  rw [e3]
                  refine b_iconst rfl ?_
                  refine b_icmp_ne rfl (fun c_78 => ?_) (fun c_78 => ?_)
                  · refine b_iconst rfl ?_
                    refine b_icmp_ne rfl (fun c_86 => ?_) (fun c_86 => ?_)
                    · exact absurd rfl c_86
                    · refine b_iconst rfl ?_
                      refine b_goto rfl ?_
                      refine b_istore_n rfl (Nat.le_of_ble_eq_true rfl) ?_
                      refine b_iinc rfl rfl (Nat.le_of_ble_eq_true rfl) ?_
                      refine b_goto rfl ?_
                      exact b_lp (good ⟨fun z => absurd z ca, fun z => absurd z cb⟩) (le_e (le_e (le_e (le_q (by rw [nI_succ]) (le_n le_0))))) rfl rfl
                  · exact absurd c_78 cb
                · exact absurd c_60 ca
      · refine b_iload_n rfl rfl ?_
        refine b_aload_n rfl rfl ?_
        refine b_getR rfl (by first | rfl | assumption) rfl (by assumption) ?_
        refine b_bipush rfl ?_
        refine b_iaload rfl (by first | rfl | assumption) i21 (by omega) ?_
        rw [hf2, v1]
        refine b_icmp_ge rfl (fun c_24 => ?_) (fun c_24 => ?_)
        · exact absurd c_24 (nI_ge hk (by omega))
        · refine b_bipush rfl ?_
          refine b_iconst rfl ?_
          refine b_iload_n rfl rfl ?_
          refine b_imul rfl ?_
          refine b_iadd rfl ?_
          refine b_istore rfl (Nat.le_of_ble_eq_true rfl) ?_
          refine b_iload_n rfl rfl ?_
          refine b_if_eq rfl (fun c_36 => ?_) (fun c_36 => ?_)
          · refine b_iconst rfl ?_
            refine b_istore_n rfl (Nat.le_of_ble_eq_true rfl) ?_
            refine b_iinc rfl rfl (Nat.le_of_ble_eq_true rfl) ?_
            refine b_goto rfl ?_
            exact b_lp (ih 0 (Or.inr ⟨rfl, hno⟩)) (le_e (le_e (le_e (le_q (by rw [nI_succ]) (le_n le_0))))) rfl rfl
          · exact absurd rfl c_36
  refine b_aload_n rfl rfl ?_
  refine b_aload_n rfl rfl ?_
  refine b_getR rfl (by first | rfl | assumption) rfl (by assumption) ?_
  refine b_bipush rfl ?_
  refine b_iaload rfl (by first | rfl | assumption) i22 (by omega) ?_
  rw [v3]
  refine b_iload_n rfl rfl ?_
  refine b_callV rfl rfl hk_M_goesAlone rfl rfl rfl (by first | rfl | assumption) rfl (Nat.le_of_ble_eq_true rfl) (q_M_goesAlone hB (hVw.1 (by omega))) (Nat.le_of_ble_eq_true rfl) (fun r_9 D_9 q_9 => ?_)
  obtain ⟨rfl, I2, rfl, hf, hp⟩ := q_9
  refine b_iconst rfl ?_
  refine b_istore_n rfl (Nat.le_of_ble_eq_true rfl) ?_
  refine b_iconst rfl ?_
  refine b_istore_n rfl (Nat.le_of_ble_eq_true rfl) ?_
  exact b_lp (lp I2 hf (fun i hi => by rw [hp i hi, hpa]) 1 (Or.inl ⟨rfl, fun i hi => absurd hi (by omega)⟩)) (le_e (le_e (le_e (le_q (by rw [nI_0]) (le_n le_0))))) rfl rfl
end HNwills
