section HNask
variable {I I' : Nat → Nat → Int32} {J J' : Nat → Nat → Int64} {R : Nat → Nat → Option Nat} {t : Nat} {N : sp_N} {Q Q' S : sp_Q} {U : sp_U} {V : sp_V}
theorem hs_y1_ms {b : Nat} (h : ¬ hs_ms b) : ¬ hs_y1 b := fun e => h (by unfold hs_y1 at e; unfold hs_ms; omega)
theorem sm_y {I0 I2 : Nat → Nat → Int32} (hs : hs_sm I J R (I0, J, R)) (hf : ∀ b, ¬ (b = 202 ∨ b = 203 ∨ (206 ≤ b ∧ b ≤ 211)) → I2 b = I0 b) : hs_sm I J R (I2, J, R) :=
  ⟨rfl, fun b hb => by show I2 b = I b; rw [hf b (fun e => hb (by unfold hs_ms; omega))]; exact hs.2.1 b hb, fun j hj => by show I2 188 j = _; rw [hf 188 (by omega)]; exact hs.2.2.1 j hj, fun j hj => by show I2 204 j = _; rw [hf 204 (by omega)]; exact hs.2.2.2.1 j hj, fun _ _ => rfl⟩
theorem hs_Vm_e (hV : hs_Vm I 0 V) (h : I' 204 = I 204) : hs_Vm I' 0 V := hs_Vm_fr hV (fun j _ _ => by rw [h])
theorem wl_lo : ∀ {s : Nat → Int32} (i : Nat), i ≤ 40 → (wl N s V i).2.1 = -1 ∨ 0 ≤ (wl N s V i).2.1
  | _, 0, _ => Or.inl rfl
  | s, i + 1, hi => by
    have ih : (wl N s V i).2.1 = -1 ∨ 0 ≤ (wl N s V i).2.1 := wl_lo i (by omega)
    show (if al_pos N s V (nI (i + 1)) then ((wl N s V i).1 + 1, if (wl N s V i).2.1 = -1 then nI (i + 1) else (wl N s V i).2.1, nI (i + 1)) else wl N s V i).2.1 = -1 ∨ 0 ≤ (if al_pos N s V (nI (i + 1)) then ((wl N s V i).1 + 1, if (wl N s V i).2.1 = -1 then nI (i + 1) else (wl N s V i).2.1, nI (i + 1)) else wl N s V i).2.1
    split
    · simp only
      split
      · exact Or.inr (hi_nlt0 _ (by omega))
      · exact ih
    · exact ih
theorem q_M_wills {w : Int32} (hB : hs_B I R N Q) (hV : hs_Vm I 0 V) (hVw : hs_Vw N.1 V) : hn_F 6 hm_M_wills [.ref 188, .int w] (I, J, R) (fun r D' => hs_sm I J R D' ∧ r = some (.int (v_wills N Q V w))) := by
  have t2 : (2 : Int32).toInt = 2 := rfl
  have i21 : (21 : Int32).toInt = ((21 : Nat) : Int) := rfl
  have v1 : I 204 21 = nI V.2.1 := hV.1
  have v8 := hV.2.1
  obtain ⟨m1, m4, m5, m6, m9, m10, m11, m12, m14, m15, m16, m17, m20, m21, m22, m23, m25, m27, m28, m29, m30, m31, m32⟩ := hs_M_of hB.1
  refine hn_F_of _ hk_M_wills rfl (Nat.le_of_ble_eq_true rfl) ?_
  by_cases hw9 : (0 : Int32).toInt ≤ w.toInt ∧ w.toInt ≤ (2 : Int32).toInt
  · obtain ⟨P, hPd⟩ : ∃ P : Option Value → hnD → Prop, P = (fun r D' => hs_sm I J R D' ∧ r = some (.int (v_wills N Q V w))) := ⟨_, rfl⟩
    rw [← hPd]
    have lp : ∀ I', hs_sm I J R (I', J, R) → hn_B 6 hm_M_wills P 26 [.ref 188, .int w, .int (wl N (qS Q) V 0).1, .int (wl N (qS Q) V 0).2.1, .int (wl N (qS Q) V 0).2.2, .int (nI (0 + 1)), .null] [] (I', J, R) := by
      refine sp_ind 40 (fun i => ∀ I', hs_sm I J R (I', J, R) → hn_B 6 hm_M_wills P 26 [.ref 188, .int w, .int (wl N (qS Q) V i).1, .int (wl N (qS Q) V i).2.1, .int (wl N (qS Q) V i).2.2, .int (nI (i + 1)), .null] [] (I', J, R)) ?_ ?_
      · intro I' hsm
        refine b_iload rfl rfl ?_
        refine b_bipush rfl ?_
        refine b_icmp_gt rfl (fun c_30 => ?_) (fun c_30 => ?_)
        · refine b_iload_n rfl rfl ?_
          refine b_if_ne rfl (fun c_109 => ?_) (fun c_109 => ?_)
          · refine b_iload_n rfl rfl ?_
            refine b_iconst rfl ?_
            refine b_icmp_ne rfl (fun c_118 => ?_) (fun c_118 => ?_)
            · refine b_iload rfl rfl ?_
              exact b_ireturn rfl trivial ((by rw [hPd]; first | exact ⟨hsm, by rw [v_wills, if_pos c_109]⟩ | exact ⟨hsm, by rw [v_wills, if_neg c_109, if_pos c_118]⟩ | exact ⟨hsm, by rw [v_wills, if_neg c_109, if_neg c_118, if_pos (hi_eq (x := w) (y := 2) (by have h1 : ¬ w.toInt = 0 := (fun z => c_109 (hi_eq z)); have h2 : ¬ w.toInt = 1 := (fun z => c_118 (hi_eq z)); rw [hi_t0, t2] at hw9; rw [t2]; omega))]⟩))
            · refine b_iload_n rfl rfl ?_
              refine b_goto rfl ?_
              exact b_ireturn rfl trivial ((by rw [hPd]; first | exact ⟨hsm, by rw [v_wills, if_pos c_109]⟩ | exact ⟨hsm, by rw [v_wills, if_neg c_109, if_pos c_118]⟩ | exact ⟨hsm, by rw [v_wills, if_neg c_109, if_neg c_118, if_pos (hi_eq (x := w) (y := 2) (by have h1 : ¬ w.toInt = 0 := (fun z => c_109 (hi_eq z)); have h2 : ¬ w.toInt = 1 := (fun z => c_118 (hi_eq z)); rw [hi_t0, t2] at hw9; rw [t2]; omega))]⟩))
          · refine b_iload_n rfl rfl ?_
            refine b_goto rfl ?_
            exact b_ireturn rfl trivial ((by rw [hPd]; first | exact ⟨hsm, by rw [v_wills, if_pos c_109]⟩ | exact ⟨hsm, by rw [v_wills, if_neg c_109, if_pos c_118]⟩ | exact ⟨hsm, by rw [v_wills, if_neg c_109, if_neg c_118, if_pos (hi_eq (x := w) (y := 2) (by have h1 : ¬ w.toInt = 0 := (fun z => c_109 (hi_eq z)); have h2 : ¬ w.toInt = 1 := (fun z => c_118 (hi_eq z)); rw [hi_t0, t2] at hw9; rw [t2]; omega))]⟩))
        · exact absurd (show (40 : Int32) < nI (40 + 1) by decide) c_30
      · intro i hi ih I' hsm
        have e204 : I' 204 21 = nI V.2.1 := (hsm.2.2.2.1 21 (by omega)).trans v1
        have hB' := hs_B_sm hB hsm
        have hV' : hs_Vm I' 0 V := hs_Vm_fr hV (fun j _ h2 => hsm.2.2.2.1 _ (by omega))
        have hlo := wl_lo (N := N) (V := V) (s := qS Q) i (by omega)
        have hs : wl N (qS Q) V (i + 1) = if al_pos N (qS Q) V (nI (i + 1)) then ((wl N (qS Q) V i).1 + 1, if (wl N (qS Q) V i).2.1 = -1 then nI (i + 1) else (wl N (qS Q) V i).2.1, nI (i + 1)) else wl N (qS Q) V i := rfl
        rw [hs] at ih
        generalize wl N (qS Q) V i = a at ih hlo ⊢
        obtain ⟨a1, a2, a3⟩ := a
        simp only at ih hlo
        have yes : ∀ I2, hs_sm I J R (I2, J, R) → al_pos N (qS Q) V (nI (i + 1)) → hn_B 6 hm_M_wills P 57 [.ref 188, .int w, .int a1, .int a2, .int a3, .int (nI (i + 1)), .null] [.int 1] (I2, J, R) := by
          intro I2 h2 hp
          rw [if_pos hp] at ih
          by_cases hl : a2 = -1
          · rw [if_pos hl] at ih
            refine b_istore rfl (Nat.le_of_ble_eq_true rfl) ?_
            refine b_iload_n rfl rfl ?_
            refine b_iload rfl rfl ?_
            refine b_if_eq rfl (fun c_62 => ?_) (fun c_62 => ?_)
            · exact absurd c_62 (by decide)
            · refine b_iconst rfl ?_
              refine b_goto rfl ?_
              refine b_iadd rfl ?_
              refine b_istore_n rfl (Nat.le_of_ble_eq_true rfl) ?_
              refine b_iload rfl rfl ?_
              refine b_if_eq rfl (fun c_74 => ?_) (fun c_74 => ?_)
              · exact absurd c_74 (by decide)
              · refine b_iload_n rfl rfl ?_
                refine b_if_ge rfl (fun c_78 => ?_) (fun c_78 => ?_)
                · exact absurd c_78 (by rw [hl]; exact hi_m1)
                · refine b_iload rfl rfl ?_
                  refine b_goto rfl ?_
                  refine b_istore_n rfl (Nat.le_of_ble_eq_true rfl) ?_
                  refine b_iload rfl rfl ?_
                  refine b_if_eq rfl (fun c_90 => ?_) (fun c_90 => ?_)
                  · exact absurd c_90 (by decide)
                  · refine b_iload rfl rfl ?_
                    refine b_goto rfl ?_
                    refine b_istore rfl (Nat.le_of_ble_eq_true rfl) ?_
                    refine b_iinc rfl rfl (Nat.le_of_ble_eq_true rfl) ?_
                    refine b_goto rfl ?_
                    exact b_lp (ih I2 h2) (le_e (le_e (le_e (le_e (le_e (le_q (by rw [nI_succ]) (le_n le_0))))))) rfl rfl
          · rw [if_neg hl] at ih
            refine b_istore rfl (Nat.le_of_ble_eq_true rfl) ?_
            refine b_iload_n rfl rfl ?_
            refine b_iload rfl rfl ?_
            refine b_if_eq rfl (fun c_62 => ?_) (fun c_62 => ?_)
            · exact absurd c_62 (by decide)
            · refine b_iconst rfl ?_
              refine b_goto rfl ?_
              refine b_iadd rfl ?_
              refine b_istore_n rfl (Nat.le_of_ble_eq_true rfl) ?_
              refine b_iload rfl rfl ?_
              refine b_if_eq rfl (fun c_74 => ?_) (fun c_74 => ?_)
              · exact absurd c_74 (by decide)
              · refine b_iload_n rfl rfl ?_
                refine b_if_ge rfl (fun c_78 => ?_) (fun c_78 => ?_)
                · refine b_iload_n rfl rfl ?_
                  refine b_istore_n rfl (Nat.le_of_ble_eq_true rfl) ?_
                  refine b_iload rfl rfl ?_
                  refine b_if_eq rfl (fun c_90 => ?_) (fun c_90 => ?_)
                  · exact absurd c_90 (by decide)
                  · refine b_iload rfl rfl ?_
                    refine b_goto rfl ?_
                    refine b_istore rfl (Nat.le_of_ble_eq_true rfl) ?_
                    refine b_iinc rfl rfl (Nat.le_of_ble_eq_true rfl) ?_
                    refine b_goto rfl ?_
                    exact b_lp (ih I2 h2) (le_e (le_e (le_e (le_e (le_e (le_q (by rw [nI_succ]) (le_n le_0))))))) rfl rfl
                · exact absurd (hlo.resolve_left hl) c_78
        by_cases h0 : V.2.1 = 0
        · refine b_iload rfl rfl ?_
          refine b_bipush rfl ?_
          refine b_icmp_gt rfl (fun c_30 => ?_) (fun c_30 => ?_)
          · exact absurd c_30 (hi_gt40 hi)
          · refine b_aload_n rfl rfl ?_
            refine b_getR rfl (by first | rfl | assumption) rfl (by assumption) ?_
            refine b_bipush rfl ?_
            refine b_iaload rfl (by first | rfl | assumption) i21 (by omega) ?_
            rw [e204, h0]
            refine b_if_eq rfl (fun c_40 => ?_) (fun c_40 => ?_)
            · refine b_iconst rfl ?_
              refine b_goto rfl ?_
              exact b_lp (yes I' hsm (Or.inl h0)) (le_e (le_e (le_e (le_e (le_e (le_e (le_n le_0))))))) rfl rfl
            · exact absurd rfl c_40
        · by_cases hp : al_pos N (qS Q) V (nI (i + 1))
          · refine b_iload rfl rfl ?_
            refine b_bipush rfl ?_
            refine b_icmp_gt rfl (fun c_30 => ?_) (fun c_30 => ?_)
            · exact absurd c_30 (hi_gt40 hi)
            · refine b_aload_n rfl rfl ?_
              refine b_getR rfl (by first | rfl | assumption) rfl (by assumption) ?_
              refine b_bipush rfl ?_
              refine b_iaload rfl (by first | rfl | assumption) i21 (by omega) ?_
              rw [e204]
              refine b_if_eq rfl (fun c_40 => ?_) (fun c_40 => ?_)
              · exact absurd ((hi_nIe (k := 0) (by omega) (by omega)).mp c_40) h0
              · refine b_aload_n rfl rfl ?_
                refine b_iload rfl rfl ?_
                refine b_callV rfl rfl hk_M_isAsSeen rfl rfl rfl (by first | rfl | assumption) rfl (Nat.le_of_ble_eq_true rfl) (q_M_isAsSeen hB' hV' hVw h0) (Nat.le_of_ble_eq_true rfl) (fun r_46 D_46 q_46 => ?_)
                obtain ⟨⟨I2, rfl, hf2, _⟩, hq⟩ := q_46
                have hq := (hq.resolve_right (fun z => z.1 hp)).2
                subst hq
                refine b_if_eq rfl (fun c_49 => ?_) (fun c_49 => ?_)
                · exact absurd c_49 (by decide)
                · refine b_iconst rfl ?_
                  refine b_goto rfl ?_
                  exact b_lp (yes I2 (sm_y hsm (fun b hb => hf2 b (fun e => hb (by unfold hs_y1 at e; omega)))) hp) (le_e (le_e (le_e (le_e (le_e (le_e (le_n le_0))))))) rfl rfl
          · rw [if_neg hp] at ih
            refine b_iload rfl rfl ?_
            refine b_bipush rfl ?_
            refine b_icmp_gt rfl (fun c_30 => ?_) (fun c_30 => ?_)
            · exact absurd c_30 (hi_gt40 hi)
            · refine b_aload_n rfl rfl ?_
              refine b_getR rfl (by first | rfl | assumption) rfl (by assumption) ?_
              refine b_bipush rfl ?_
              refine b_iaload rfl (by first | rfl | assumption) i21 (by omega) ?_
              rw [e204]
              refine b_if_eq rfl (fun c_40 => ?_) (fun c_40 => ?_)
              · exact absurd ((hi_nIe (k := 0) (by omega) (by omega)).mp c_40) h0
              · refine b_aload_n rfl rfl ?_
                refine b_iload rfl rfl ?_
                refine b_callV rfl rfl hk_M_isAsSeen rfl rfl rfl (by first | rfl | assumption) rfl (Nat.le_of_ble_eq_true rfl) (q_M_isAsSeen hB' hV' hVw h0) (Nat.le_of_ble_eq_true rfl) (fun r_46 D_46 q_46 => ?_)
                obtain ⟨⟨I2, rfl, hf2, _⟩, hq⟩ := q_46
                have hq := (hq.resolve_left (fun z => hp z.1)).2
                subst hq
                refine b_if_eq rfl (fun c_49 => ?_) (fun c_49 => ?_)
                · refine b_iconst rfl ?_
                  refine b_istore rfl (Nat.le_of_ble_eq_true rfl) ?_
                  refine b_iload_n rfl rfl ?_
                  refine b_iload rfl rfl ?_
                  refine b_if_eq rfl (fun c_62 => ?_) (fun c_62 => ?_)
                  · refine b_iconst rfl ?_
                    refine b_iadd rfl ?_
                    refine b_istore_n rfl (Nat.le_of_ble_eq_true rfl) ?_
                    refine b_iload rfl rfl ?_
                    refine b_if_eq rfl (fun c_74 => ?_) (fun c_74 => ?_)
                    · refine b_iload_n rfl rfl ?_
                      refine b_istore_n rfl (Nat.le_of_ble_eq_true rfl) ?_
                      refine b_iload rfl rfl ?_
                      refine b_if_eq rfl (fun c_90 => ?_) (fun c_90 => ?_)
                      · refine b_iload rfl rfl ?_
                        refine b_istore rfl (Nat.le_of_ble_eq_true rfl) ?_
                        refine b_iinc rfl rfl (Nat.le_of_ble_eq_true rfl) ?_
                        refine b_goto rfl ?_
                        exact b_lp (ih I2 (sm_y hsm (fun b hb => hf2 b (fun e => hb (by unfold hs_y1 at e; omega))))) (le_e (le_e (le_q (by rw [Int32.add_zero]) (le_e (le_e (le_q (by rw [nI_succ]) (le_n le_0))))))) rfl rfl
                      · exact absurd rfl c_90
                    · exact absurd rfl c_74
                  · exact absurd rfl c_62
                · exact absurd rfl c_49
    refine b_aload_n rfl rfl ?_
    refine b_iconst rfl ?_
    refine b_putI rfl (by first | rfl | assumption) rfl rfl ⟨rfl, rfl⟩ ?_
    have hB1 := hs_B_0 (v := 0) hB
    have hs0 : hs_sm I J R (hn_u I 188 0 0, J, R) := hs_sm_0
    obtain ⟨I0, h0⟩ : ∃ z, z = hn_u I 188 0 0 := ⟨_, rfl⟩
    rw [← h0] at hB1 hs0 ⊢
    have e0 : ∀ b, b ≠ 188 → I0 b = I b := fun b hb => by rw [h0, hn_u_ne _ _ _ hb]
    have e188 : ∀ j, j ≠ 0 → I0 188 j = I 188 j := fun j hj => by rw [h0, hn_u_eq, va_up, if_neg hj]
    have hB2 := hB1
    obtain ⟨hR, hN, hQ, hfm, hw, hAw⟩ := hB1
    have hM := hs_M_of hR
    have hN0 := hN
    have hQ0 := hQ
    have hw0 := hw
    obtain ⟨⟨hn, n8, hnp, n4, hkn⟩, hL⟩ := hN
    obtain ⟨⟨_, hVs, hVw, hVp, hVh⟩, hVt⟩ := hQ
    simp only [Nat.zero_add] at hVs hVw hVp hVh
    obtain ⟨m1, m4, m5, m6, m9, m10, m11, m12, m14, m15, m16, m17, m20, m21, m22, m23, m25, m27, m28, m29, m30, m31, m32⟩ := id hM
    refine b_iload_n rfl rfl ?_
    refine b_iconst rfl ?_
    refine b_iconst rfl ?_
    refine b_callS rfl rfl hk_M_within rfl rfl rfl (Nat.le_of_ble_eq_true rfl) (q_M_within) (Nat.le_of_ble_eq_true rfl) (fun r_8 D_8 q_8 => ?_)
    obtain ⟨rfl, hq⟩ := q_8
    rw [if_pos hw9] at hq
    subst hq
    refine b_if_ne rfl (fun c_11 => ?_) (fun c_11 => ?_)
    · refine b_iconst rfl ?_
      refine b_istore_n rfl (Nat.le_of_ble_eq_true rfl) ?_
      refine b_iconst rfl ?_
      refine b_istore_n rfl (Nat.le_of_ble_eq_true rfl) ?_
      refine b_iconst rfl ?_
      refine b_istore rfl (Nat.le_of_ble_eq_true rfl) ?_
      refine b_iconst rfl ?_
      refine b_istore rfl (Nat.le_of_ble_eq_true rfl) ?_
      exact b_lp (lp I0 hs0) (le_e (le_e (le_e (le_e (le_e (le_e (le_n le_0))))))) rfl rfl
    · exact absurd c_11 (by decide)
  · have hv : v_wills N Q V w = -1 := by
      rw [v_wills, if_neg (fun z => hw9 (by rw [z]; decide)), if_neg (fun z => hw9 (by rw [z]; decide)), if_neg (fun z => hw9 (by rw [z]; decide))]
    rw [hv]
    refine b_aload_n rfl rfl ?_
    refine b_iconst rfl ?_
    refine b_putI rfl (by first | rfl | assumption) rfl rfl ⟨rfl, rfl⟩ ?_
    have hB1 := hs_B_0 (v := 0) hB
    have hs0 : hs_sm I J R (hn_u I 188 0 0, J, R) := hs_sm_0
    obtain ⟨I0, h0⟩ : ∃ z, z = hn_u I 188 0 0 := ⟨_, rfl⟩
    rw [← h0] at hB1 hs0 ⊢
    have e0 : ∀ b, b ≠ 188 → I0 b = I b := fun b hb => by rw [h0, hn_u_ne _ _ _ hb]
    have e188 : ∀ j, j ≠ 0 → I0 188 j = I 188 j := fun j hj => by rw [h0, hn_u_eq, va_up, if_neg hj]
    have hB2 := hB1
    obtain ⟨hR, hN, hQ, hfm, hw, hAw⟩ := hB1
    have hM := hs_M_of hR
    have hN0 := hN
    have hQ0 := hQ
    have hw0 := hw
    obtain ⟨⟨hn, n8, hnp, n4, hkn⟩, hL⟩ := hN
    obtain ⟨⟨_, hVs, hVw, hVp, hVh⟩, hVt⟩ := hQ
    simp only [Nat.zero_add] at hVs hVw hVp hVh
    obtain ⟨m1, m4, m5, m6, m9, m10, m11, m12, m14, m15, m16, m17, m20, m21, m22, m23, m25, m27, m28, m29, m30, m31, m32⟩ := id hM
    refine b_iload_n rfl rfl ?_
    refine b_iconst rfl ?_
    refine b_iconst rfl ?_
    refine b_callS rfl rfl hk_M_within rfl rfl rfl (Nat.le_of_ble_eq_true rfl) (q_M_within) (Nat.le_of_ble_eq_true rfl) (fun r_8 D_8 q_8 => ?_)
    obtain ⟨rfl, hq⟩ := q_8
    rw [if_neg hw9] at hq
    subst hq
    refine b_if_ne rfl (fun c_11 => ?_) (fun c_11 => ?_)
    · exact absurd rfl c_11
    · refine b_iconst rfl ?_
      exact b_ireturn rfl trivial (⟨hs0, rfl⟩)
/-! crowds: how many of the wills are where, hour by hour -/
def cn (N : sp_N) (s : Nat → Int32) (V : sp_V) (h : Nat) (x : Int32) : Nat → Nat := sp_up (fun i a => if al_pos N s V (nI (i + 1)) ∧ (al N s (nI (i + 1)) V.1 h).2.1 = x then a + 1 else a) 0
def cw (N : sp_N) (s : Nat → Int32) (V : sp_V) : Nat → Nat := sp_up (fun i a => if al_pos N s V (nI (i + 1)) then a + 1 else a) 0
theorem cn_le {s : Nat → Int32} {h : Nat} {x : Int32} : ∀ m, cn N s V h x m ≤ m
  | 0 => Nat.le_refl _
  | m + 1 => by
    have ih : cn N s V h x m ≤ m := cn_le m
    show (if al_pos N s V (nI (m + 1)) ∧ (al N s (nI (m + 1)) V.1 h).2.1 = x then cn N s V h x m + 1 else cn N s V h x m) ≤ m + 1
    split <;> omega
theorem cw_le {s : Nat → Int32} : ∀ m, cw N s V m ≤ m
  | 0 => Nat.le_refl _
  | m + 1 => by
    have ih : cw N s V m ≤ m := cw_le m
    show (if al_pos N s V (nI (m + 1)) then cw N s V m + 1 else cw N s V m) ≤ m + 1
    split <;> omega
def mxn (f : Nat → Nat) : Nat → Nat := sp_up (fun r a => if a < f r then f r else a) 0
theorem mxn_ge (f : Nat → Nat) : ∀ n r, r < n → f r ≤ mxn f n
  | 0, r, h => absurd h (by omega)
  | n + 1, r, h => by
    have ih := mxn_ge f n r
    show f r ≤ (if mxn f n < f n then f n else mxn f n)
    by_cases e : r = n
    · subst e; split <;> omega
    · have := ih (by omega)
      split <;> omega
theorem mxn_is (f : Nat → Nat) : ∀ n, mxn f n = 0 ∨ ∃ r, r < n ∧ mxn f n = f r
  | 0 => Or.inl rfl
  | n + 1 => by
    have ih := mxn_is f n
    show (if mxn f n < f n then f n else mxn f n) = 0 ∨ ∃ r, r < n + 1 ∧ (if mxn f n < f n then f n else mxn f n) = f r
    by_cases e : mxn f n < f n
    · rw [if_pos e]; exact Or.inr ⟨n, by omega, rfl⟩
    · rw [if_neg e]
      rcases ih with h | ⟨r, h1, h2⟩
      · exact Or.inl h
      · exact Or.inr ⟨r, by omega, h2⟩
theorem mxn_eq {f g : Nat → Nat} {n : Nat} (h1 : ∀ r, r < n → ∃ j, j < n ∧ f r = g j) (h2 : ∀ r, r < n → ∃ j, j < n ∧ g r = f j) : mxn f n = mxn g n := by
  refine Nat.le_antisymm ?_ ?_
  · rcases mxn_is f n with h | ⟨r, hr, h⟩
    · omega
    · obtain ⟨j, hj, e⟩ := h1 r hr
      rw [h, e]; exact mxn_ge g n j hj
  · rcases mxn_is g n with h | ⟨r, hr, h⟩
    · omega
    · obtain ⟨j, hj, e⟩ := h2 r hr
      rw [h, e]; exact mxn_ge f n j hj
/-- the places in the order of the class's row, of the reference's -/
def px (r : Nat) : Int32 := nI r - 1
def pm (r : Nat) : Int32 := if r = 8 then -1 else nI r
theorem px_0 : px 0 = -1 := by decide
theorem px_s (k : Nat) : px (k + 1) = nI k := by unfold px; rw [nI_succ, Int32.add_sub_cancel]
theorem px_inj {r j : Nat} (hr : r < 9) (hj : j < 9) (h : px r = px j) : r = j := by
  have key : ∀ a : Fin 9, ∀ b : Fin 9, px a = px b → a = b := by decide +kernel
  exact congrArg Fin.val (key ⟨r, hr⟩ ⟨j, hj⟩ h)
theorem pm_inj {r j : Nat} (hr : r < 9) (hj : j < 9) (h : pm r = pm j) : r = j := by
  have key : ∀ a : Fin 9, ∀ b : Fin 9, pm a = pm b → a = b := by decide +kernel
  exact congrArg Fin.val (key ⟨r, hr⟩ ⟨j, hj⟩ h)
theorem px_of {x : Int32} {n : Nat} (hn : n ≤ 8) (h : x = -1 ∨ ∃ q, q < n ∧ x = nI q) : ∃ r, r < 9 ∧ x = px r := by
  rcases h with rfl | ⟨q, hq, rfl⟩
  · exact ⟨0, by omega, px_0.symm⟩
  · exact ⟨q + 1, by omega, (px_s q).symm⟩
theorem pm_of {x : Int32} {n : Nat} (hn : n ≤ 8) (h : x = -1 ∨ ∃ q, q < n ∧ x = nI q) : ∃ r, r < 9 ∧ x = pm r ∧ (if x < 0 then 8 else x) = nI r := by
  rcases h with rfl | ⟨q, hq, rfl⟩
  · exact ⟨8, by omega, rfl, by decide⟩
  · refine ⟨q, by omega, by unfold pm; rw [if_neg (by omega)], ?_⟩
    rw [if_neg (fun z => by have := (hi_lt (nI_toInt (n := q) (by omega)) hi_t0).mp z; omega)]
theorem mx_pp (g : Int32 → Nat) : mxn (fun r => g (px r)) 9 = mxn (fun r => g (pm r)) 9 := by
  refine mxn_eq (fun r hr => ?_) (fun r hr => ?_)
  · cases r with
    | zero => exact ⟨8, by omega, by show g (px 0) = g (pm 8); rw [px_0]; rfl⟩
    | succ k => exact ⟨k, by omega, by show g (px (k + 1)) = g (pm k); rw [px_s, pm, if_neg (by omega)]⟩
  · by_cases e : r = 8
    · subst e; exact ⟨0, by omega, by show g (pm 8) = g (px 0); rw [px_0]; rfl⟩
    · exact ⟨r + 1, by omega, by show g (pm r) = g (px (r + 1)); rw [px_s, pm, if_neg e]⟩
/-- a row of crowds behind m wills, of the next one's hours before j too -/
def cr (N : sp_N) (s : Nat → Int32) (V : sp_V) (pl : Nat → Int32) (m x : Nat) : Nat := cn N s V (x / 9) (pl (x % 9)) m
def jn (b : Nat → Nat) (pa pl : Nat → Int32) (j x : Nat) : Nat := b x + if x / 9 < j ∧ pa (x / 9) = pl (x % 9) then 1 else 0
theorem jn_0 {b : Nat → Nat} {pa pl : Nat → Int32} {x : Nat} : jn b pa pl 0 x = b x := by unfold jn; rw [if_neg (fun h => absurd h.1 (by omega))]; rfl
theorem jn_step {b : Nat → Nat} {pa pl : Nat → Int32} {row : Nat → Int32} {j r : Nat} (inj : ∀ a c, a < 9 → c < 9 → pl a = pl c → a = c) (h : ∀ x, x < 279 → row x = nI (jn b pa pl j x)) (hr : r < 9) (hj : j ≤ 30) (e : pa j = pl r) : ∀ x, x < 279 → va_up row (9 * j + r) (row (9 * j + r) + 1) x = nI (jn b pa pl (j + 1) x) := by
  intro x hx
  unfold va_up
  have hx9 := h x hx
  have d1 : (9 * j + r) / 9 = j := by omega
  have d2 : (9 * j + r) % 9 = r := by omega
  by_cases hxe : x = 9 * j + r
  · rw [if_pos hxe, ← hxe, hx9, ← nI_succ]
    congr 1
    unfold jn
    rw [hxe, d1, d2, if_neg (fun z => absurd z.1 (by omega)), if_pos ⟨by omega, e⟩]
  · rw [if_neg hxe, hx9]
    congr 1
    unfold jn
    by_cases hd : x / 9 = j
    · rw [hd, if_neg (fun z => absurd z.1 (by omega)), if_neg (fun z => ?_)]
      have := inj r (x % 9) hr (by omega) (e.symm.trans z.2)
      omega
    · by_cases hl : x / 9 < j ∧ pa (x / 9) = pl (x % 9)
      · rw [if_pos hl, if_pos ⟨by omega, hl.2⟩]
      · rw [if_neg hl, if_neg (fun z => hl ⟨by omega, z.2⟩)]
theorem cr_next {s : Nat → Int32} {pl : Nat → Int32} {m x : Nat} (hp : al_pos N s V (nI (m + 1))) (hx : x < 279) : jn (cr N s V pl m) (fun h => (al N s (nI (m + 1)) V.1 h).2.1) pl 31 x = cr N s V pl (m + 1) x := by
  show cr N s V pl m x + (if x / 9 < 31 ∧ (al N s (nI (m + 1)) V.1 (x / 9)).2.1 = pl (x % 9) then 1 else 0) = (if al_pos N s V (nI (m + 1)) ∧ (al N s (nI (m + 1)) V.1 (x / 9)).2.1 = pl (x % 9) then cr N s V pl m x + 1 else cr N s V pl m x)
  by_cases h : (al N s (nI (m + 1)) V.1 (x / 9)).2.1 = pl (x % 9)
  · rw [if_pos ⟨by omega, h⟩, if_pos ⟨hp, h⟩]
  · rw [if_neg (fun z => h z.2), if_neg (fun z => h z.2)]; rfl
theorem cr_same {s : Nat → Int32} {pl : Nat → Int32} {m x : Nat} (hp : ¬ al_pos N s V (nI (m + 1))) : cr N s V pl (m + 1) x = cr N s V pl m x := if_neg (fun z => hp z.1)
abbrev mx (N : sp_N) (s : Nat → Int32) (V : sp_V) (h : Nat) : Nat := mxn (fun r => cn N s V h (px r) 40) 9
theorem mx_le {s : Nat → Int32} {h : Nat} : mx N s V h ≤ 40 := by
  rcases mxn_is (fun r => cn N s V h (px r) 40) 9 with e | ⟨r, _, e⟩
  · show mxn _ 9 ≤ 40; omega
  · show mxn _ 9 ≤ 40; rw [e]; exact cn_le 40
def hp_ (N : sp_N) (s : Nat → Int32) (V : sp_V) : Nat → Nat × Int32 := sp_up (fun h b => if mx N s V h < b.1 then (mx N s V h, nI h) else b) (cw N s V 40, -1)
theorem hp_le {s : Nat → Int32} : ∀ h, (hp_ N s V h).1 ≤ 40
  | 0 => cw_le 40
  | h + 1 => by
    have ih : (hp_ N s V h).1 ≤ 40 := hp_le h
    show (if mx N s V h < (hp_ N s V h).1 then (mx N s V h, nI h) else hp_ N s V h).1 ≤ 40
    split
    · exact mx_le
    · exact ih
def v_ask (N : sp_N) (Q : sp_Q) (V : sp_V) : Int32 := if V.2.1 = 0 then -1 else (hp_ N (qS Q) V 31).2
/-! the class's crowds -/
theorem q_X_crowdAt {x y : Int32} : hn_F 0 hm_X_crowdAt [.int x, .int y] (I, J, R) (fun r D' => D' = (I, J, R) ∧ r = some (.int (x * 9 + y + 1))) := by
  refine hn_F_of _ hk_X_crowdAt rfl (Nat.le_of_ble_eq_true rfl) ?_
  refine b_iload_n rfl rfl ?_
  refine b_bipush rfl ?_
  refine b_imul rfl ?_
  refine b_iload_n rfl rfl ?_
  refine b_iadd rfl ?_
  refine b_iconst rfl ?_
  refine b_iadd rfl ?_
  exact b_ireturn rfl trivial (⟨rfl, rfl⟩)
theorem at_px {h r : Nat} : nI h * 9 + px r + 1 = nI (9 * h + r) := by
  unfold px
  rw [Int32.add_assoc, Int32.sub_add_cancel, nI_ad, nI_ml, Int32.mul_comm]; rfl
theorem hs_r1 (hR : hs_refs R) : R 0 17 = some 186 ∧ R 0 18 = some 187 := ⟨hR (0, 17, 186) (by decide +kernel), hR (0, 18, 187) (by decide +kernel)⟩
theorem q_X_joinCrowds {b : Nat → Nat} {pa : Nat → Int32} (hR : hs_refs R) (hp : ∀ i, i ≤ 30 → I 186 i = pa i) (hpl : ∀ i, i ≤ 30 → ∃ r, r < 9 ∧ pa i = px r) (hc : ∀ x, x < 279 → I 187 x = nI (b x)) : hn_F 1 hm_X_joinCrowds [.ref 0] (I, J, R) (fun r D' => r = none ∧ ∃ I2, D' = (I2, J, R) ∧ (∀ c, c ≠ 187 → I2 c = I c) ∧ ∀ x, x < 279 → I2 187 x = nI (jn b pa px 31 x)) := by
  obtain ⟨r17, r18⟩ := hs_r1 hR
  refine hn_F_of _ hk_X_joinCrowds rfl (Nat.le_of_ble_eq_true rfl) ?_
  obtain ⟨P, hPd⟩ : ∃ P : Option Value → hnD → Prop, P = (fun r D' => r = none ∧ ∃ I2, D' = (I2, J, R) ∧ (∀ c, c ≠ 187 → I2 c = I c) ∧ ∀ x, x < 279 → I2 187 x = nI (jn b pa px 31 x)) := ⟨_, rfl⟩
  rw [← hPd]
  have lp : ∀ I', (∀ c, c ≠ 187 → I' c = I c) → (∀ x, x < 279 → I' 187 x = nI (jn b pa px 0 x)) → hn_B 1 hm_X_joinCrowds P 2 [.ref 0, .int (nI 0)] [] (I', J, R) := by
    refine sp_ind 31 (fun j => ∀ I', (∀ c, c ≠ 187 → I' c = I c) → (∀ x, x < 279 → I' 187 x = nI (jn b pa px j x)) → hn_B 1 hm_X_joinCrowds P 2 [.ref 0, .int (nI j)] [] (I', J, R)) ?_ ?_
    · intro I' hf hx
      refine b_iload_n rfl rfl ?_
      refine b_bipush rfl ?_
      refine b_icmp_gt rfl (fun c_5 => ?_) (fun c_5 => ?_)
      · exact b_return_ rfl trivial ((by rw [hPd]; exact ⟨rfl, I', rfl, hf, hx⟩))
      · exact absurd (show (30 : Int32) < nI 31 by decide) c_5
    · intro j hj ih I' hf hx
      obtain ⟨r, hr, er⟩ := hpl j (by omega)
      have ej : I' 186 j = px r := by rw [hf 186 (by omega), hp j (by omega), er]
      have c5 : ¬ (30 : Int32) < nI j := fun z => by
        have := (hi_lt (show (30 : Int32).toInt = 30 from rfl) (nI_toInt (n := j) (by omega))).mp z
        omega
      refine b_iload_n rfl rfl ?_
      refine b_bipush rfl ?_
      refine b_icmp_gt rfl (fun c_5 => ?_) (fun c_5 => ?_)
      · exact absurd c_5 c5
      · refine b_aload_n rfl rfl ?_
        refine b_getR rfl (by first | rfl | assumption) rfl (by assumption) ?_
        refine b_iload_n rfl rfl ?_
        refine b_aload_n rfl rfl ?_
        refine b_getR rfl (by first | rfl | assumption) rfl (by assumption) ?_
        refine b_iload_n rfl rfl ?_
        refine b_iaload rfl (by first | rfl | assumption) (by first | assumption | exact nI_toInt (by omega) | exact hi_l0 | exact hi_l1 | exact hi_l2 | exact hi_l3 | exact hi_l4 | exact hi_l5 | exact hi_l6) (by omega) ?_
        rw [ej]
        refine b_callS rfl rfl hk_X_crowdAt rfl rfl rfl (Nat.le_of_ble_eq_true rfl) (q_X_crowdAt) (Nat.le_of_ble_eq_true rfl) (fun r_19 D_19 q_19 => ?_)
        obtain ⟨rfl, rfl⟩ := q_19
        rw [at_px]
        refine b_dup2_11 rfl rfl rfl ?_
        refine b_iaload rfl (by first | rfl | assumption) (by first | assumption | exact nI_toInt (by omega) | exact hi_l0 | exact hi_l1 | exact hi_l2 | exact hi_l3 | exact hi_l4 | exact hi_l5 | exact hi_l6) (by omega) ?_
        refine b_iconst rfl ?_
        refine b_iadd rfl ?_
        refine b_iastore rfl (by first | rfl | assumption) (by first | assumption | exact nI_toInt (by omega) | exact hi_l0 | exact hi_l1 | exact hi_l2 | exact hi_l3 | exact hi_l4 | exact hi_l5 | exact hi_l6) (by omega) ?_
        refine b_iinc rfl rfl (Nat.le_of_ble_eq_true rfl) ?_
        refine b_goto rfl ?_
        exact b_lp (ih (hn_u I' 187 (9 * j + r) (I' 187 (9 * j + r) + 1)) (fun c hc => by rw [hn_u_ne _ _ _ hc]; exact hf c hc) (fun x hx9 => by rw [hn_u_eq]; exact jn_step (fun a c ha hc h => px_inj ha hc h) hx hr (by omega) er x hx9)) (le_e (le_q (by rw [nI_succ]) le_0)) rfl rfl
  refine b_iconst rfl ?_
  refine b_istore_n rfl (Nat.le_of_ble_eq_true rfl) ?_
  exact b_lp (lp I (fun _ _ => rfl) (fun x hx => by rw [jn_0]; exact hc x hx)) (le_e (le_q (by rw [nI_0]) le_0)) rfl rfl
theorem nI_mx {a b : Nat} (ha : a < 2147483648) (hb : b < 2147483648) : (if nI a < nI b then nI b else nI a) = nI (if a < b then b else a) := by
  by_cases h : a < b
  · rw [if_pos h, if_pos (hi_nlt h hb)]
  · rw [if_neg h, if_neg (hi_nnlt (by omega) ha)]
theorem q_X_largestCrowd {s : Nat → Int32} {h : Nat} (hR : hs_refs R) (hh : h ≤ 30) (hc : ∀ x, x < 279 → I 187 x = nI (cr N s V px 40 x)) : hn_F 1 hm_X_largestCrowd [.ref 0, .int (nI h)] (I, J, R) (fun r D' => D' = (I, J, R) ∧ r = some (.int (nI (mx N s V h)))) := by
  obtain ⟨r17, r18⟩ := hs_r1 hR
  refine hn_F_of _ hk_X_largestCrowd rfl (Nat.le_of_ble_eq_true rfl) ?_
  have hle : ∀ r, mxn (fun r => cn N s V h (px r) 40) r ≤ 40 := by
    intro r
    rcases mxn_is (fun r => cn N s V h (px r) 40) r with e | ⟨j, _, e⟩
    · omega
    · rw [e]; exact cn_le 40
  refine b_iconst rfl ?_
  refine b_istore_n rfl (Nat.le_of_ble_eq_true rfl) ?_
  refine b_iconst rfl ?_
  refine b_istore_n rfl (Nat.le_of_ble_eq_true rfl) ?_
  refine b_lp (sp_ind 9 (fun r => hn_B 1 hm_X_largestCrowd _ 4 [.ref 0, .int (nI h), .int (nI (mxn (fun r => cn N s V h (px r) 40) r)), .int (px r)] [] (I, J, R)) ?_ ?_) (le_e (le_e (le_q (by rfl) (le_q (by rw [px_0]) le_0)))) rfl rfl
  · refine b_iload_n rfl rfl ?_
    refine b_bipush rfl ?_
    refine b_icmp_ge rfl (fun c_7 => ?_) (fun c_7 => ?_)
    · refine b_iload_n rfl rfl ?_
      exact b_ireturn rfl trivial (⟨rfl, rfl⟩)
    · exact absurd (show (8 : Int32) ≤ px 9 by decide) c_7
  · intro r hr ih
    have c7 : ¬ (8 : Int32) ≤ px r := by
      have key : ∀ a : Fin 9, ¬ (8 : Int32) ≤ px a := by decide +kernel
      exact key ⟨r, hr⟩
    have e9 : I 187 (9 * h + r) = nI (cn N s V h (px r) 40) := by
      rw [hc _ (by omega)]
      unfold cr
      rw [show (9 * h + r) / 9 = h by omega, show (9 * h + r) % 9 = r by omega]
    have e8 : (if nI (mxn (fun r => cn N s V h (px r) 40) r) < nI (cn N s V h (px r) 40) then nI (cn N s V h (px r) 40) else nI (mxn (fun r => cn N s V h (px r) 40) r)) = nI (mxn (fun r => cn N s V h (px r) 40) (r + 1)) := by
      rw [nI_mx (by have := hle r; omega) (by have := cn_le (N := N) (V := V) (s := s) (h := h) (x := px r) 40; omega)]; rfl
    have e7 : px (r + 1) = px r + 1 := by unfold px; rw [nI_succ, Int32.add_sub_cancel, Int32.sub_add_cancel]
    refine b_iload_n rfl rfl ?_
    refine b_bipush rfl ?_
    refine b_icmp_ge rfl (fun c_7 => ?_) (fun c_7 => ?_)
    · exact absurd c_7 c7
    · refine b_iload_n rfl rfl ?_
      refine b_aload_n rfl rfl ?_
      refine b_getR rfl (by first | rfl | assumption) rfl (by assumption) ?_
      refine b_iload_n rfl rfl ?_
      refine b_iload_n rfl rfl ?_
      refine b_callS rfl rfl hk_X_crowdAt rfl rfl rfl (Nat.le_of_ble_eq_true rfl) (q_X_crowdAt) (Nat.le_of_ble_eq_true rfl) (fun r_17 D_17 q_17 => ?_)
      obtain ⟨rfl, rfl⟩ := q_17
      rw [at_px]
      refine b_iaload rfl (by first | rfl | assumption) (by first | assumption | exact nI_toInt (by omega) | exact hi_l0 | exact hi_l1 | exact hi_l2 | exact hi_l3 | exact hi_l4 | exact hi_l5 | exact hi_l6) (by omega) ?_
      rw [e9]
      refine b_mmax rfl rfl (by decide) (Nat.le_of_ble_eq_true rfl) ?_
      rw [e8]
      refine b_istore_n rfl (Nat.le_of_ble_eq_true rfl) ?_
      refine b_iinc rfl rfl (Nat.le_of_ble_eq_true rfl) ?_
      refine b_goto rfl ?_
      exact b_lp ih (le_e (le_e (le_e (le_q (by rw [e7]) le_0)))) rfl rfl
theorem q_X_hourThatParts {s : Nat → Int32} (hR : hs_refs R) (hc : ∀ x, x < 279 → I 187 x = nI (cr N s V px 40 x)) : hn_F 2 hm_X_hourThatParts [.ref 0, .int (nI (cw N s V 40))] (I, J, R) (fun r D' => D' = (I, J, R) ∧ r = some (.int (hp_ N s V 31).2)) := by
  refine hn_F_of _ hk_X_hourThatParts rfl (Nat.le_of_ble_eq_true rfl) ?_
  refine b_iload_n rfl rfl ?_
  refine b_istore_n rfl (Nat.le_of_ble_eq_true rfl) ?_
  refine b_iconst rfl ?_
  refine b_istore_n rfl (Nat.le_of_ble_eq_true rfl) ?_
  refine b_iconst rfl ?_
  refine b_istore rfl (Nat.le_of_ble_eq_true rfl) ?_
  refine b_lp (sp_ind 31 (fun h => hn_B 2 hm_X_hourThatParts _ 7 [.ref 0, .int (nI (cw N s V 40)), .int (nI (hp_ N s V h).1), .int (hp_ N s V h).2, .int (nI h), .null] [] (I, J, R)) ?_ ?_) (le_e (le_e (le_e (le_e (le_q (by rw [nI_0]) (le_n le_0)))))) rfl rfl
  · refine b_iload rfl rfl ?_
    refine b_bipush rfl ?_
    refine b_icmp_gt rfl (fun c_11 => ?_) (fun c_11 => ?_)
    · refine b_iload_n rfl rfl ?_
      exact b_ireturn rfl trivial (⟨rfl, rfl⟩)
    · exact absurd (show (30 : Int32) < nI 31 by decide) c_11
  · intro h hh ih
    have hs : hp_ N s V (h + 1) = if mx N s V h < (hp_ N s V h).1 then (mx N s V h, nI h) else hp_ N s V h := rfl
    rw [hs] at ih
    have c11 : ¬ (30 : Int32) < nI h := fun z => by
      have := (hi_lt (show (30 : Int32).toInt = 30 from rfl) (nI_toInt (n := h) (by omega))).mp z
      omega
    have hl := hp_le (N := N) (V := V) (s := s) h
    have hm := mx_le (N := N) (V := V) (s := s) (h := h)
    by_cases hb : mx N s V h < (hp_ N s V h).1
    · rw [if_pos hb] at ih
      refine b_iload rfl rfl ?_
      refine b_bipush rfl ?_
      refine b_icmp_gt rfl (fun c_11 => ?_) (fun c_11 => ?_)
      · exact absurd c_11 c11
      · refine b_aload_n rfl rfl ?_
        refine b_iload rfl rfl ?_
        refine b_callV rfl rfl hk_X_largestCrowd rfl rfl rfl (by first | rfl | assumption) rfl (Nat.le_of_ble_eq_true rfl) (q_X_largestCrowd hR (show h ≤ 30 by omega) hc) (Nat.le_of_ble_eq_true rfl) (fun r_17 D_17 q_17 => ?_)
        obtain ⟨rfl, rfl⟩ := q_17
        refine b_istore rfl (Nat.le_of_ble_eq_true rfl) ?_
        refine b_iload rfl rfl ?_
        refine b_iload_n rfl rfl ?_
        refine b_icmp_ge rfl (fun c_25 => ?_) (fun c_25 => ?_)
        · exact absurd c_25 (nI_ge hb (by omega))
        · refine b_iload rfl rfl ?_
          refine b_istore_n rfl (Nat.le_of_ble_eq_true rfl) ?_
          refine b_iload rfl rfl ?_
          refine b_istore_n rfl (Nat.le_of_ble_eq_true rfl) ?_
          refine b_iinc rfl rfl (Nat.le_of_ble_eq_true rfl) ?_
          refine b_goto rfl ?_
          exact b_lp ih (le_e (le_e (le_e (le_e (le_q (by rw [nI_succ]) (le_n le_0)))))) rfl rfl
    · rw [if_neg hb] at ih
      refine b_iload rfl rfl ?_
      refine b_bipush rfl ?_
      refine b_icmp_gt rfl (fun c_11 => ?_) (fun c_11 => ?_)
      · exact absurd c_11 c11
      · refine b_aload_n rfl rfl ?_
        refine b_iload rfl rfl ?_
        refine b_callV rfl rfl hk_X_largestCrowd rfl rfl rfl (by first | rfl | assumption) rfl (Nat.le_of_ble_eq_true rfl) (q_X_largestCrowd hR (show h ≤ 30 by omega) hc) (Nat.le_of_ble_eq_true rfl) (fun r_17 D_17 q_17 => ?_)
        obtain ⟨rfl, rfl⟩ := q_17
        refine b_istore rfl (Nat.le_of_ble_eq_true rfl) ?_
        refine b_iload rfl rfl ?_
        refine b_iload_n rfl rfl ?_
        refine b_icmp_ge rfl (fun c_25 => ?_) (fun c_25 => ?_)
        · refine b_iinc rfl rfl (Nat.le_of_ble_eq_true rfl) ?_
          refine b_goto rfl ?_
          exact b_lp ih (le_e (le_e (le_e (le_e (le_q (by rw [nI_succ]) (le_n le_0)))))) rfl rfl
        · exact absurd (nI_le (show (hp_ N s V h).1 ≤ mx N s V h by omega) (by omega)) c_25
theorem hi_279 : Int32.ofNat 279 = nI 279 := rfl
theorem q_X_ask (hA : hs_A I R t N Q) (hV : hs_Vx I 135 V) (hVw : hs_Vw N.1 V) : hn_F 7 hm_X_ask [.ref 0] (I, J, R) (fun r D' => hs_sx t I J R D' ∧ r = some (.int (v_ask N Q V))) := by
  have hA0 := hA
  obtain ⟨hR, r2, ht, hN, hX, hw, hz, hAw⟩ := hA
  have hN0 := hN
  have hX0 := hX
  have hw0 := hw
  obtain ⟨n0, n8, n4, nk, nh, na, hc, ncd⟩ := hN
  obtain ⟨x1, x2, x3, x4, x5, x6, x7⟩ := hX
  obtain ⟨r6, r7, r8, r11, r12, r13, r14, r15, r16, r17, r18⟩ := hs_x0 hR
  have hSt := hs_St_of hR (show 44 ∈ hs_sc by decide)
  have hNt := hs_Net_of hR ht
  obtain ⟨_, sk0, sk1, sk2, sk3, sk4, g0, g1, g2, g3⟩ := id hSt
  obtain ⟨tt5, tn0, tn1, tn2, tn3, tn4, tn5, tn6, tn7, tn8, tn9, tn10, ts1, ts2, ts3, ts4, ts5, ts7, ts8, tl0, tl2, tl6, tl7⟩ := id hNt
  have v1 := hV.1
  have v8 := hV.2.1
  have k187 : hn_kind 187 = (1, 279) := rfl
  refine hn_F_of _ hk_X_ask rfl (Nat.le_of_ble_eq_true rfl) ?_
  by_cases h0 : V.2.1 = 0
  · rw [v_ask, if_pos h0]
    refine b_aload_n rfl rfl ?_
    refine b_getR rfl (by first | rfl | assumption) rfl (by assumption) ?_
    refine b_getI rfl (by first | rfl | assumption) rfl ?_
    rw [v1, h0]
    refine b_if_ne rfl (fun c_7 => ?_) (fun c_7 => ?_)
    · exact absurd rfl c_7
    · refine b_iconst rfl ?_
      exact b_ireturn rfl trivial (⟨hs_sx_r hz, rfl⟩)
  · rw [v_ask, if_neg h0]
    obtain ⟨f, hf, ef⟩ := hVw.1 (by omega)
    obtain ⟨P, hPd⟩ : ∃ P : Option Value → hnD → Prop, P = (fun r D' => hs_sx t I J R D' ∧ r = some (.int (hp_ N (qS Q) V 31).2)) := ⟨_, rfl⟩
    rw [← hPd]
    have lp : ∀ I', (∀ b, ¬ (hs_x1 t b ∨ b = 187) → I' b = I b) → hs_z I' 49 → (∀ x, x < 279 → I' 187 x = nI (cr N (qS Q) V px 0 x)) → hn_B 7 hm_X_ask P 40 [.ref 0, .int (nI (cw N (qS Q) V 0)), .int (nI (0 + 1))] [] (I', J, R) := by
      refine sp_ind 40 (fun i => ∀ I', (∀ b, ¬ (hs_x1 t b ∨ b = 187) → I' b = I b) → hs_z I' 49 → (∀ x, x < 279 → I' 187 x = nI (cr N (qS Q) V px i x)) → hn_B 7 hm_X_ask P 40 [.ref 0, .int (nI (cw N (qS Q) V i)), .int (nI (i + 1))] [] (I', J, R)) ?_ ?_
      · intro I' hf9 hz9 hc9
        have hsx : hs_sx t I J R (I', J, R) := ⟨rfl, fun b hb => hf9 b (fun e => hb (by unfold hs_x1 at e; unfold hs_xs; omega)), fun _ _ _ _ => rfl, hz9⟩
        refine b_iload_n rfl rfl ?_
        refine b_bipush rfl ?_
        refine b_icmp_gt rfl (fun c_43 => ?_) (fun c_43 => ?_)
        · refine b_aload_n rfl rfl ?_
          refine b_iload_n rfl rfl ?_
          refine b_callV rfl rfl hk_X_hourThatParts rfl rfl rfl (by first | rfl | assumption) rfl (Nat.le_of_ble_eq_true rfl) (q_X_hourThatParts hR hc9) (Nat.le_of_ble_eq_true rfl) (fun r_69 D_69 q_69 => ?_)
          obtain ⟨rfl, rfl⟩ := q_69
          exact b_ireturn rfl trivial ((by rw [hPd]; exact ⟨hsx, rfl⟩))
        · exact absurd (show (40 : Int32) < nI (40 + 1) by decide) c_43
      · intro i hi ih I' hf9 hz9 hc9
        have hA' := hs_A_fr hA0 (fun b hb => hf9 b (fun e => hb (by unfold hs_x1 at e; unfold hs_xs; omega))) hz9
        have hV' : hs_Vx I' 135 V := hs_Vx_fr hV (fun b h1 h2 => hf9 b (fun e => by unfold hs_x1 at e; omega))
        have hcall := q_X_isPossible (J := J) (w := nI (i + 1)) hA' hV' hVw
        have hs : cw N (qS Q) V (i + 1) = if al_pos N (qS Q) V (nI (i + 1)) then cw N (qS Q) V i + 1 else cw N (qS Q) V i := rfl
        rw [hs] at ih
        by_cases hp : al_pos N (qS Q) V (nI (i + 1))
        · rw [if_pos hp] at ih
          have hpls := al_pls (N := N) (s := qS Q) (w := nI (i + 1)) (f := V.1) (Or.inr ⟨f, hf, ef⟩)
          refine b_iload_n rfl rfl ?_
          refine b_bipush rfl ?_
          refine b_icmp_gt rfl (fun c_43 => ?_) (fun c_43 => ?_)
          · exact absurd c_43 (hi_gt40 hi)
          · refine b_aload_n rfl rfl ?_
            refine b_iload_n rfl rfl ?_
            refine b_callV rfl rfl hk_X_isPossible rfl rfl rfl (by first | rfl | assumption) rfl (Nat.le_of_ble_eq_true rfl) (hcall) (Nat.le_of_ble_eq_true rfl) (fun r_48 D_48 q_48 => ?_)
            obtain ⟨⟨I2, rfl, hf2, hz2, hp2⟩, hq⟩ := q_48
            have hq := (hq.resolve_right (fun z => z.1 hp)).2
            subst hq
            refine b_if_eq rfl (fun c_51 => ?_) (fun c_51 => ?_)
            · exact absurd c_51 (by decide)
            · refine b_iinc rfl rfl (Nat.le_of_ble_eq_true rfl) ?_
              refine b_aload_n rfl rfl ?_
              refine b_callV rfl rfl hk_X_joinCrowds rfl rfl rfl (by first | rfl | assumption) rfl (Nat.le_of_ble_eq_true rfl) (q_X_joinCrowds (b := cr N (qS Q) V px i) (pa := fun h => (al N (qS Q) (nI (i + 1)) V.1 h).2.1) hR (hp2 h0) (fun j _ => px_of n8 (hpls j)) (fun x hx => by rw [hf2 187 (fun e => by unfold hs_x1 at e; omega)]; exact hc9 x hx)) (Nat.le_of_ble_eq_true rfl) (fun r_58 D_58 q_58 => ?_)
              obtain ⟨rfl, I3, rfl, hf3, hc3⟩ := q_58
              refine b_iinc rfl rfl (Nat.le_of_ble_eq_true rfl) ?_
              refine b_goto rfl ?_
              exact b_lp (ih I3 (fun b hb => by rw [hf3 b (fun e => hb (Or.inr e)), hf2 b (fun e => hb (Or.inl e))]; exact hf9 b hb) (hs_z_fr hz2 (fun b h1 h2 => hf3 b (by omega))) (fun x hx => by rw [hc3 x hx, cr_next hp hx])) (le_e (le_q (by rw [nI_succ]) (le_q (by rw [nI_succ]) le_0))) rfl rfl
        · rw [if_neg hp] at ih
          refine b_iload_n rfl rfl ?_
          refine b_bipush rfl ?_
          refine b_icmp_gt rfl (fun c_43 => ?_) (fun c_43 => ?_)
          · exact absurd c_43 (hi_gt40 hi)
          · refine b_aload_n rfl rfl ?_
            refine b_iload_n rfl rfl ?_
            refine b_callV rfl rfl hk_X_isPossible rfl rfl rfl (by first | rfl | assumption) rfl (Nat.le_of_ble_eq_true rfl) (hcall) (Nat.le_of_ble_eq_true rfl) (fun r_48 D_48 q_48 => ?_)
            obtain ⟨⟨I2, rfl, hf2, hz2, hp2⟩, hq⟩ := q_48
            have hq := (hq.resolve_left (fun z => hp z.1)).2
            subst hq
            refine b_if_eq rfl (fun c_51 => ?_) (fun c_51 => ?_)
            · refine b_iinc rfl rfl (Nat.le_of_ble_eq_true rfl) ?_
              refine b_goto rfl ?_
              exact b_lp (ih I2 (fun b hb => by rw [hf2 b (fun e => hb (Or.inl e))]; exact hf9 b hb) hz2 (fun x hx => by rw [hf2 187 (fun e => by unfold hs_x1 at e; omega), hc9 x hx, cr_same hp])) (le_e (le_e (le_q (by rw [nI_succ]) le_0))) rfl rfl
            · exact absurd rfl c_51
    have l0 : ∀ I', (∀ b, b ≠ 187 → I' b = I b) → (∀ x, x < 0 → I' 187 x = 0) → hn_B 7 hm_X_ask P 14 [.ref 0, .int (nI 0), .null] [] (I', J, R) := by
      refine sp_ind 279 (fun k => ∀ I', (∀ b, b ≠ 187 → I' b = I b) → (∀ x, x < k → I' 187 x = 0) → hn_B 7 hm_X_ask P 14 [.ref 0, .int (nI k), .null] [] (I', J, R)) ?_ ?_
      · intro I' hf9 hc9
        refine b_iload_n rfl rfl ?_
        refine b_aload_n rfl rfl ?_
        refine b_getR rfl (by first | rfl | assumption) rfl (by assumption) ?_
        refine b_arraylength rfl (by first | rfl | assumption) rfl ?_
        refine b_icmp_ge rfl (fun c_20 => ?_) (fun c_20 => ?_)
        · refine b_iconst rfl ?_
          refine b_istore_n rfl (Nat.le_of_ble_eq_true rfl) ?_
          refine b_iconst rfl ?_
          refine b_istore_n rfl (Nat.le_of_ble_eq_true rfl) ?_
          exact b_lp (lp I' (fun b hb => hf9 b (fun e => hb (Or.inr e))) (hs_z_fr hz (fun b h1 h2 => hf9 b (by omega))) (fun x hx => by rw [hc9 x hx]; rfl)) (le_e (le_q (by rfl) (le_q (by rfl) le_0))) rfl rfl
        · exact absurd (by rw [hi_279]; exact nI_le (Nat.le_refl _) (by omega)) c_20
      · intro k hk ih I' hf9 hc9
        refine b_iload_n rfl rfl ?_
        refine b_aload_n rfl rfl ?_
        refine b_getR rfl (by first | rfl | assumption) rfl (by assumption) ?_
        refine b_arraylength rfl (by first | rfl | assumption) rfl ?_
        refine b_icmp_ge rfl (fun c_20 => ?_) (fun c_20 => ?_)
        · exact absurd (by rw [← hi_279]; exact c_20) (nI_ge (b := 279) hk (by omega))
        · refine b_aload_n rfl rfl ?_
          refine b_getR rfl (by first | rfl | assumption) rfl (by assumption) ?_
          refine b_iload_n rfl rfl ?_
          refine b_iconst rfl ?_
          refine b_iastore rfl (by first | rfl | assumption) (by first | assumption | exact nI_toInt (by omega) | exact hi_l0 | exact hi_l1 | exact hi_l2 | exact hi_l3 | exact hi_l4 | exact hi_l5 | exact hi_l6) (by omega) ?_
          refine b_iinc rfl rfl (Nat.le_of_ble_eq_true rfl) ?_
          refine b_goto rfl ?_
          exact b_lp (ih (hn_u I' 187 k 0) (fun b hb => by rw [hn_u_ne _ _ _ hb]; exact hf9 b hb) (fun x hx => by rw [hn_u_eq]; exact up_0 (fun e => hc9 x (by omega)))) (le_e (le_q (by rw [nI_succ]) (le_n le_0))) rfl rfl
    refine b_aload_n rfl rfl ?_
    refine b_getR rfl (by first | rfl | assumption) rfl (by assumption) ?_
    refine b_getI rfl (by first | rfl | assumption) rfl ?_
    rw [v1]
    refine b_if_ne rfl (fun c_7 => ?_) (fun c_7 => ?_)
    · refine b_iconst rfl ?_
      refine b_istore_n rfl (Nat.le_of_ble_eq_true rfl) ?_
      exact b_lp (l0 I (fun _ _ => rfl) (fun x hx => absurd hx (by omega))) (le_e (le_q (by rw [nI_0]) (le_n le_0))) rfl rfl
    · exact absurd ((hi_nIe (k := 0) (by omega) (by omega)).mp c_7) h0
end HNask
