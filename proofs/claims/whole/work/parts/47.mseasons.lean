section HNmseasons
variable {I I' : Nat → Nat → Int32} {J J' : Nat → Nat → Int64} {R : Nat → Nat → Option Nat} {t : Nat} {N : sp_N} {Q Q' S : sp_Q} {U : sp_U} {V : sp_V}
theorem q_M_drawsDeed {q : sp_Q} (hB : hs_B I R N Q) (hs : hs_sm I J R (I', J', R)) (h : hs_Qm I' 1034 q) (hw : hs_Qw N.1 N.2.1 q) (hn : 1 ≤ N.1) (hp0 : 1 ≤ N.2.1) (hg : dr_in (J' 188 33)) : hn_F 4 hm_M_drawsDeed [.ref 188] (I', J', R) (fun r D' => (∃ I2 J2, D' = (I2, J2, R) ∧ hs_sm I J R (I2, J2, R) ∧ hs_Qm I2 1034 (dd N q (J' 188 33)).1 ∧ J2 188 33 = dr_n (dr_n (dr_n (J' 188 33)))) ∧ r = some (.int (dd N q (J' 188 33)).2)) := by
  have hB' := hs_B_sm hB hs
  obtain ⟨hR, hN, hQ, hfm, hw2, hAw⟩ := id hB'
  have hM := hs_M_of hR
  obtain ⟨m1, m4, m5, m6, m9, m10, m11, m12, m14, m15, m16, m17, m20, m21, m22, m23, m25, m27, m28, m29, m30, m31, m32⟩ := id hM
  obtain ⟨⟨hnk, n8, hnp, n4, hkn⟩, hL⟩ := id hN
  obtain ⟨s1, s2, s3, s4, s5⟩ := id hs
  refine hn_F_of _ hk_M_drawsDeed rfl (Nat.le_of_ble_eq_true rfl) ?_
  have d1 := dr_n_in hg
  have d2 := dr_n_in d1
  have d3 := dr_n_in d2
  obtain ⟨p, hp, ep⟩ := dr_v_in d1 hp0 (by omega)
  obtain ⟨k, hk, ek⟩ := dr_v_in d2 hn n8
  obtain ⟨a, ha, ea⟩ := dr_5 d3
  obtain ⟨P, hPd⟩ : ∃ P : Option Value → hnD → Prop, P = (fun r D' => (∃ I2 J2, D' = (I2, J2, R) ∧ hs_sm I J R (I2, J2, R) ∧ hs_Qm I2 1034 (dd N q (J' 188 33)).1 ∧ J2 188 33 = dr_n (dr_n (dr_n (J' 188 33)))) ∧ r = some (.int (dd N q (J' 188 33)).2)) := ⟨_, rfl⟩
  rw [← hPd]
  have hPd2 : P = (fun r D' => (∃ I2 J2, D' = (I2, J2, R) ∧ hs_sm I J R (I2, J2, R) ∧ hs_Qm I2 1034 (dd_q N q p k (nI a)).1 ∧ J2 188 33 = dr_n (dr_n (dr_n (J' 188 33)))) ∧ r = some (.int (dd_q N q p k (nI a)).2)) := by
    rw [hPd]; unfold dd; rw [ep, ek, ea, nI_clamp (by omega), nI_clamp (by omega)]
  have jsm : ∀ I2 J2, (∀ b, b ≠ 188 → J2 b = J' b) → hs_sm I J R (I2, J', R) → hs_sm I J R (I2, J2, R) := fun I2 J2 hj g => ⟨g.1, g.2.1, g.2.2.1, g.2.2.2.1, fun b hb => (hj b hb).trans (g.2.2.2.2 b hb)⟩
  have hj1000 : ∀ j : Nat, (1047 : Int32) + nI j = nI (1034 + 13 + j) := fun j => by rw [nI_ad]; rfl
  have L24 : ∀ J2, (∀ b, b ≠ 188 → J2 b = J' b) → J2 188 33 = dr_n (dr_n (dr_n (J' 188 33))) → hn_B 4 hm_M_drawsDeed P 24 [.ref 188, .int (nI p), .int (nI k), .int (nI a)] [] (I', J2, R) := by
    intro J2 hj hj2
    by_cases a0 : a = 0
    · subst a0
      rw [show dd_q N q p k (nI 0) = (sp_put q p (-1), 0) from if_pos rfl] at hPd2
      refine b_iload_n rfl rfl ?_
      refine b_if_ne rfl (fun c_25 => ?_) (fun c_25 => ?_)
      · exact absurd rfl c_25
      · refine b_aload_n rfl rfl ?_
        refine b_getR rfl (by first | rfl | assumption) rfl (by assumption) ?_
        refine b_sipush rfl ?_
        refine b_iload_n rfl rfl ?_
        refine b_iadd rfl ?_
        refine b_iconst rfl ?_
        refine b_iastore rfl (by first | rfl | assumption) (hi_ix (1034 + 13 + p) (hj1000 p) (by omega)) (by omega) ?_
        refine b_goto rfl ?_
        refine b_iload_n rfl rfl ?_
        refine b_iconst rfl ?_
        refine b_icmp_eq rfl (fun c_71 => ?_) (fun c_71 => ?_)
        · exact absurd c_71 (by decide)
        · refine b_iload_n rfl rfl ?_
          refine b_iconst rfl ?_
          refine b_icmp_ne rfl (fun c_76 => ?_) (fun c_76 => ?_)
          · refine b_iconst rfl ?_
            exact b_ireturn rfl (by first | exact Or.inl rfl | exact Or.inr rfl | exact trivial) ((by rw [hPd2]; exact ⟨⟨_, J2, rfl, jsm _ _ hj (hs_sm_u hs (by omega)), hs_put_mb (by omega) h, hj2⟩, rfl⟩))
          · exact absurd c_76 (by decide)
    · have b0 : ¬ nI a = 0 := fun e => a0 ((hi_nIe (k := 0) (by omega) (by omega)).mp e)
      by_cases h1 : a = 1 ∧ qP q p = -1
      · obtain ⟨rfl, h2⟩ := h1
        rw [show dd_q N q p k (nI 1) = (sp_put q p (nI k), 0) by unfold dd_q; rw [if_neg b0, if_pos ⟨rfl, h2⟩]] at hPd2
        refine b_iload_n rfl rfl ?_
        refine b_if_ne rfl (fun c_25 => ?_) (fun c_25 => ?_)
        · refine b_iload_n rfl rfl ?_
          refine b_iconst rfl ?_
          refine b_icmp_ne rfl (fun c_44 => ?_) (fun c_44 => ?_)
          · exact absurd rfl c_44
          · refine b_aload_n rfl rfl ?_
            refine b_sipush rfl ?_
            refine b_iload_n rfl rfl ?_
            refine b_callV rfl rfl hk_M_doesLie rfl rfl rfl (by first | rfl | assumption) rfl (Nat.le_of_ble_eq_true rfl) (q_M_doesLie hM h.1 n8 hw.1 (show p < 4 by omega) rfl) (Nat.le_of_ble_eq_true rfl) (fun r_52 D_52 q_52 => ?_)
            obtain ⟨rfl, hq⟩ := q_52
            rw [if_pos h2] at hq
            subst hq
            refine b_if_ne rfl (fun c_55 => ?_) (fun c_55 => ?_)
            · exact absurd rfl c_55
            · refine b_aload_n rfl rfl ?_
              refine b_getR rfl (by first | rfl | assumption) rfl (by assumption) ?_
              refine b_sipush rfl ?_
              refine b_iload_n rfl rfl ?_
              refine b_iadd rfl ?_
              refine b_iload_n rfl rfl ?_
              refine b_iastore rfl (by first | rfl | assumption) (hi_ix (1034 + 13 + p) (hj1000 p) (by omega)) (by omega) ?_
              refine b_iload_n rfl rfl ?_
              refine b_iconst rfl ?_
              refine b_icmp_eq rfl (fun c_71 => ?_) (fun c_71 => ?_)
              · exact absurd c_71 (by decide)
              · refine b_iload_n rfl rfl ?_
                refine b_iconst rfl ?_
                refine b_icmp_ne rfl (fun c_76 => ?_) (fun c_76 => ?_)
                · refine b_iconst rfl ?_
                  exact b_ireturn rfl (by first | exact Or.inl rfl | exact Or.inr rfl | exact trivial) ((by rw [hPd2]; exact ⟨⟨_, J2, rfl, jsm _ _ hj (hs_sm_u hs (by omega)), hs_put_mb (by omega) h, hj2⟩, rfl⟩))
                · exact absurd c_76 (by decide)
        · exact absurd c_25 b0
      · have L69 : hn_B 4 hm_M_drawsDeed P 69 [.ref 188, .int (nI p), .int (nI k), .int (nI a)] [] (I', J2, R) := by
          have b1 : ¬ (nI a = 1 ∧ qP q p = -1) := fun e => h1 ⟨(hi_nIe (k := 1) (by omega) (by omega)).mp e.1, e.2⟩
          by_cases h3 : (a = 2 ∨ a = 3) ∧ sp_cn q p k
          · have b3 : (nI a = 2 ∨ nI a = 3) ∧ sp_cn q p k := ⟨by rcases h3.1 with rfl | rfl; exact Or.inl rfl; exact Or.inr rfl, h3.2⟩
            rw [show dd_q N q p k (nI a) = (sp_sh N 0 q p k, if sp_shf N 0 q p k then 1 else 0) by unfold dd_q; rw [if_neg b0, if_neg b1, if_pos b3]] at hPd2
            have hs2 := jsm I' J2 hj hs
            by_cases hg9 : sp_shf N 0 q p k
            · rw [if_pos hg9] at hPd2
              refine b_iload_n rfl rfl ?_
              refine b_iconst rfl ?_
              refine b_icmp_eq rfl (fun c_71 => ?_) (fun c_71 => ?_)
              · refine b_aload_n rfl rfl ?_
                refine b_sipush rfl ?_
                refine b_iload_n rfl rfl ?_
                refine b_iload_n rfl rfl ?_
                refine b_callV rfl rfl hk_M_mayShift rfl rfl rfl (by first | rfl | assumption) rfl (Nat.le_of_ble_eq_true rfl) (q_M_mayShift hM h.1 n8 hw.1 (show p < 4 by omega) rfl) (Nat.le_of_ble_eq_true rfl) (fun r_85 D_85 q_85 => ?_)
                obtain ⟨rfl, hq⟩ := q_85
                rw [if_pos h3.2] at hq
                subst hq
                refine b_if_eq rfl (fun c_88 => ?_) (fun c_88 => ?_)
                · exact absurd c_88 (by decide)
                · refine b_aload_n rfl rfl ?_
                  refine b_sipush rfl ?_
                  refine b_iload_n rfl rfl ?_
                  refine b_iload_n rfl rfl ?_
                  refine b_callV rfl rfl hk_M_shifts rfl rfl rfl (by first | rfl | assumption) rfl (Nat.le_of_ble_eq_true rfl) (qm_tg hB hs2 (by omega) h hw hp hk h3.2 rfl) (Nat.le_of_ble_eq_true rfl) (fun r_97 D_97 q_97 => ?_)
                  obtain ⟨⟨I2, rfl, h9, g9⟩, hq⟩ := q_97
                  rw [if_pos hg9] at hq
                  subst hq
                  refine b_if_eq rfl (fun c_100 => ?_) (fun c_100 => ?_)
                  · exact absurd c_100 (by decide)
                  · refine b_iconst rfl ?_
                    refine b_goto rfl ?_
                    exact b_ireturn rfl (by first | exact Or.inl rfl | exact Or.inr rfl | exact trivial) ((by rw [hPd2]; exact ⟨⟨_, J2, rfl, h9, g9, hj2⟩, rfl⟩))
              · refine b_iload_n rfl rfl ?_
                refine b_iconst rfl ?_
                refine b_icmp_ne rfl (fun c_76 => ?_) (fun c_76 => ?_)
                · exact absurd (b3.1.resolve_left c_71) c_76
                · refine b_aload_n rfl rfl ?_
                  refine b_sipush rfl ?_
                  refine b_iload_n rfl rfl ?_
                  refine b_iload_n rfl rfl ?_
                  refine b_callV rfl rfl hk_M_mayShift rfl rfl rfl (by first | rfl | assumption) rfl (Nat.le_of_ble_eq_true rfl) (q_M_mayShift hM h.1 n8 hw.1 (show p < 4 by omega) rfl) (Nat.le_of_ble_eq_true rfl) (fun r_85 D_85 q_85 => ?_)
                  obtain ⟨rfl, hq⟩ := q_85
                  rw [if_pos h3.2] at hq
                  subst hq
                  refine b_if_eq rfl (fun c_88 => ?_) (fun c_88 => ?_)
                  · exact absurd c_88 (by decide)
                  · refine b_aload_n rfl rfl ?_
                    refine b_sipush rfl ?_
                    refine b_iload_n rfl rfl ?_
                    refine b_iload_n rfl rfl ?_
                    refine b_callV rfl rfl hk_M_shifts rfl rfl rfl (by first | rfl | assumption) rfl (Nat.le_of_ble_eq_true rfl) (qm_tg hB hs2 (by omega) h hw hp hk h3.2 rfl) (Nat.le_of_ble_eq_true rfl) (fun r_97 D_97 q_97 => ?_)
                    obtain ⟨⟨I2, rfl, h9, g9⟩, hq⟩ := q_97
                    rw [if_pos hg9] at hq
                    subst hq
                    refine b_if_eq rfl (fun c_100 => ?_) (fun c_100 => ?_)
                    · exact absurd c_100 (by decide)
                    · refine b_iconst rfl ?_
                      refine b_goto rfl ?_
                      exact b_ireturn rfl (by first | exact Or.inl rfl | exact Or.inr rfl | exact trivial) ((by rw [hPd2]; exact ⟨⟨_, J2, rfl, h9, g9, hj2⟩, rfl⟩))
            · rw [if_neg hg9] at hPd2
              refine b_iload_n rfl rfl ?_
              refine b_iconst rfl ?_
              refine b_icmp_eq rfl (fun c_71 => ?_) (fun c_71 => ?_)
              · refine b_aload_n rfl rfl ?_
                refine b_sipush rfl ?_
                refine b_iload_n rfl rfl ?_
                refine b_iload_n rfl rfl ?_
                refine b_callV rfl rfl hk_M_mayShift rfl rfl rfl (by first | rfl | assumption) rfl (Nat.le_of_ble_eq_true rfl) (q_M_mayShift hM h.1 n8 hw.1 (show p < 4 by omega) rfl) (Nat.le_of_ble_eq_true rfl) (fun r_85 D_85 q_85 => ?_)
                obtain ⟨rfl, hq⟩ := q_85
                rw [if_pos h3.2] at hq
                subst hq
                refine b_if_eq rfl (fun c_88 => ?_) (fun c_88 => ?_)
                · exact absurd c_88 (by decide)
                · refine b_aload_n rfl rfl ?_
                  refine b_sipush rfl ?_
                  refine b_iload_n rfl rfl ?_
                  refine b_iload_n rfl rfl ?_
                  refine b_callV rfl rfl hk_M_shifts rfl rfl rfl (by first | rfl | assumption) rfl (Nat.le_of_ble_eq_true rfl) (qm_tg hB hs2 (by omega) h hw hp hk h3.2 rfl) (Nat.le_of_ble_eq_true rfl) (fun r_97 D_97 q_97 => ?_)
                  obtain ⟨⟨I2, rfl, h9, g9⟩, hq⟩ := q_97
                  rw [if_neg hg9] at hq
                  subst hq
                  refine b_if_eq rfl (fun c_100 => ?_) (fun c_100 => ?_)
                  · refine b_iconst rfl ?_
                    exact b_ireturn rfl (by first | exact Or.inl rfl | exact Or.inr rfl | exact trivial) ((by rw [hPd2]; exact ⟨⟨_, J2, rfl, h9, g9, hj2⟩, rfl⟩))
                  · exact absurd rfl c_100
              · refine b_iload_n rfl rfl ?_
                refine b_iconst rfl ?_
                refine b_icmp_ne rfl (fun c_76 => ?_) (fun c_76 => ?_)
                · exact absurd (b3.1.resolve_left c_71) c_76
                · refine b_aload_n rfl rfl ?_
                  refine b_sipush rfl ?_
                  refine b_iload_n rfl rfl ?_
                  refine b_iload_n rfl rfl ?_
                  refine b_callV rfl rfl hk_M_mayShift rfl rfl rfl (by first | rfl | assumption) rfl (Nat.le_of_ble_eq_true rfl) (q_M_mayShift hM h.1 n8 hw.1 (show p < 4 by omega) rfl) (Nat.le_of_ble_eq_true rfl) (fun r_85 D_85 q_85 => ?_)
                  obtain ⟨rfl, hq⟩ := q_85
                  rw [if_pos h3.2] at hq
                  subst hq
                  refine b_if_eq rfl (fun c_88 => ?_) (fun c_88 => ?_)
                  · exact absurd c_88 (by decide)
                  · refine b_aload_n rfl rfl ?_
                    refine b_sipush rfl ?_
                    refine b_iload_n rfl rfl ?_
                    refine b_iload_n rfl rfl ?_
                    refine b_callV rfl rfl hk_M_shifts rfl rfl rfl (by first | rfl | assumption) rfl (Nat.le_of_ble_eq_true rfl) (qm_tg hB hs2 (by omega) h hw hp hk h3.2 rfl) (Nat.le_of_ble_eq_true rfl) (fun r_97 D_97 q_97 => ?_)
                    obtain ⟨⟨I2, rfl, h9, g9⟩, hq⟩ := q_97
                    rw [if_neg hg9] at hq
                    subst hq
                    refine b_if_eq rfl (fun c_100 => ?_) (fun c_100 => ?_)
                    · refine b_iconst rfl ?_
                      exact b_ireturn rfl (by first | exact Or.inl rfl | exact Or.inr rfl | exact trivial) ((by rw [hPd2]; exact ⟨⟨_, J2, rfl, h9, g9, hj2⟩, rfl⟩))
                    · exact absurd rfl c_100
          · have b3 : ¬ ((nI a = 2 ∨ nI a = 3) ∧ sp_cn q p k) := fun e => h3 ⟨by rcases e.1 with e1 | e1; exact Or.inl ((hi_nIe (k := 2) (by omega) (by omega)).mp e1); exact Or.inr ((hi_nIe (k := 3) (by omega) (by omega)).mp e1), e.2⟩
            rw [show dd_q N q p k (nI a) = (q, 0) by unfold dd_q; rw [if_neg b0, if_neg b1, if_neg b3]] at hPd2
            have hs2 := jsm I' J2 hj hs
            by_cases hc : sp_cn q p k
            · refine b_iload_n rfl rfl ?_
              refine b_iconst rfl ?_
              refine b_icmp_eq rfl (fun c_71 => ?_) (fun c_71 => ?_)
              · exact absurd ⟨Or.inl c_71, hc⟩ b3
              · refine b_iload_n rfl rfl ?_
                refine b_iconst rfl ?_
                refine b_icmp_ne rfl (fun c_76 => ?_) (fun c_76 => ?_)
                · refine b_iconst rfl ?_
                  exact b_ireturn rfl (by first | exact Or.inl rfl | exact Or.inr rfl | exact trivial) ((by rw [hPd2]; exact ⟨⟨_, J2, rfl, hs2, h, hj2⟩, rfl⟩))
                · exact absurd ⟨Or.inr c_76, hc⟩ b3
            · refine b_iload_n rfl rfl ?_
              refine b_iconst rfl ?_
              refine b_icmp_eq rfl (fun c_71 => ?_) (fun c_71 => ?_)
              · refine b_aload_n rfl rfl ?_
                refine b_sipush rfl ?_
                refine b_iload_n rfl rfl ?_
                refine b_iload_n rfl rfl ?_
                refine b_callV rfl rfl hk_M_mayShift rfl rfl rfl (by first | rfl | assumption) rfl (Nat.le_of_ble_eq_true rfl) (q_M_mayShift hM h.1 n8 hw.1 (show p < 4 by omega) rfl) (Nat.le_of_ble_eq_true rfl) (fun r_85 D_85 q_85 => ?_)
                obtain ⟨rfl, hq⟩ := q_85
                rw [if_neg hc] at hq
                subst hq
                refine b_if_eq rfl (fun c_88 => ?_) (fun c_88 => ?_)
                · refine b_iconst rfl ?_
                  exact b_ireturn rfl (by first | exact Or.inl rfl | exact Or.inr rfl | exact trivial) ((by rw [hPd2]; exact ⟨⟨_, J2, rfl, hs2, h, hj2⟩, rfl⟩))
                · exact absurd rfl c_88
              · refine b_iload_n rfl rfl ?_
                refine b_iconst rfl ?_
                refine b_icmp_ne rfl (fun c_76 => ?_) (fun c_76 => ?_)
                · refine b_iconst rfl ?_
                  exact b_ireturn rfl (by first | exact Or.inl rfl | exact Or.inr rfl | exact trivial) ((by rw [hPd2]; exact ⟨⟨_, J2, rfl, hs2, h, hj2⟩, rfl⟩))
                · refine b_aload_n rfl rfl ?_
                  refine b_sipush rfl ?_
                  refine b_iload_n rfl rfl ?_
                  refine b_iload_n rfl rfl ?_
                  refine b_callV rfl rfl hk_M_mayShift rfl rfl rfl (by first | rfl | assumption) rfl (Nat.le_of_ble_eq_true rfl) (q_M_mayShift hM h.1 n8 hw.1 (show p < 4 by omega) rfl) (Nat.le_of_ble_eq_true rfl) (fun r_85 D_85 q_85 => ?_)
                  obtain ⟨rfl, hq⟩ := q_85
                  rw [if_neg hc] at hq
                  subst hq
                  refine b_if_eq rfl (fun c_88 => ?_) (fun c_88 => ?_)
                  · refine b_iconst rfl ?_
                    exact b_ireturn rfl (by first | exact Or.inl rfl | exact Or.inr rfl | exact trivial) ((by rw [hPd2]; exact ⟨⟨_, J2, rfl, hs2, h, hj2⟩, rfl⟩))
                  · exact absurd rfl c_88
        by_cases h2 : qP q p = -1
        · refine b_iload_n rfl rfl ?_
          refine b_if_ne rfl (fun c_25 => ?_) (fun c_25 => ?_)
          · refine b_iload_n rfl rfl ?_
            refine b_iconst rfl ?_
            refine b_icmp_ne rfl (fun c_44 => ?_) (fun c_44 => ?_)
            · exact L69
            · exact absurd ⟨(hi_nIe (k := 1) (by omega) (by omega)).mp c_44, h2⟩ h1
          · exact absurd c_25 b0
        · refine b_iload_n rfl rfl ?_
          refine b_if_ne rfl (fun c_25 => ?_) (fun c_25 => ?_)
          · refine b_iload_n rfl rfl ?_
            refine b_iconst rfl ?_
            refine b_icmp_ne rfl (fun c_44 => ?_) (fun c_44 => ?_)
            · exact L69
            · refine b_aload_n rfl rfl ?_
              refine b_sipush rfl ?_
              refine b_iload_n rfl rfl ?_
              refine b_callV rfl rfl hk_M_doesLie rfl rfl rfl (by first | rfl | assumption) rfl (Nat.le_of_ble_eq_true rfl) (q_M_doesLie hM h.1 n8 hw.1 (show p < 4 by omega) rfl) (Nat.le_of_ble_eq_true rfl) (fun r_52 D_52 q_52 => ?_)
              obtain ⟨rfl, hq⟩ := q_52
              rw [if_neg h2] at hq
              subst hq
              refine b_if_ne rfl (fun c_55 => ?_) (fun c_55 => ?_)
              · exact L69
              · exact absurd c_55 (by decide)
          · exact absurd c_25 b0
  refine b_aload_n rfl rfl ?_
  refine b_aload_n rfl rfl ?_
  refine b_callV rfl rfl hk_M_persons rfl rfl rfl (by first | rfl | assumption) rfl (Nat.le_of_ble_eq_true rfl) (q_M_persons hM hnp) (Nat.le_of_ble_eq_true rfl) (fun r_2 D_2 q_2 => ?_)
  obtain ⟨rfl, rfl⟩ := q_2
  refine b_callV rfl rfl hk_M_draw rfl rfl rfl (by first | rfl | assumption) rfl (Nat.le_of_ble_eq_true rfl) (q_M_draw (ne_0L hp0 (by omega))) (Nat.le_of_ble_eq_true rfl) (fun r_5 D_5 q_5 => ?_)
  obtain ⟨rfl, rfl⟩ := q_5
  rw [ep]
  obtain ⟨J1, hJ1⟩ : ∃ z, z = hn_u J' 188 33 (dr_n (J' 188 33)) := ⟨_, rfl⟩
  rw [← hJ1]
  have f1 : J1 188 33 = dr_n (J' 188 33) := by rw [hJ1, hn_u_eq, va_up, if_pos rfl]
  refine b_istore_n rfl (Nat.le_of_ble_eq_true rfl) ?_
  refine b_aload_n rfl rfl ?_
  refine b_aload_n rfl rfl ?_
  refine b_callV rfl rfl hk_M_knots rfl rfl rfl (by first | rfl | assumption) rfl (Nat.le_of_ble_eq_true rfl) (q_M_knots hM hnk) (Nat.le_of_ble_eq_true rfl) (fun r_11 D_11 q_11 => ?_)
  obtain ⟨rfl, rfl⟩ := q_11
  refine b_callV rfl rfl hk_M_draw rfl rfl rfl (by first | rfl | assumption) rfl (Nat.le_of_ble_eq_true rfl) (q_M_draw (ne_0L hn n8)) (Nat.le_of_ble_eq_true rfl) (fun r_14 D_14 q_14 => ?_)
  obtain ⟨rfl, rfl⟩ := q_14
  rw [f1, ek]
  obtain ⟨J2, hJ2⟩ : ∃ z, z = hn_u J1 188 33 (dr_n (dr_n (J' 188 33))) := ⟨_, rfl⟩
  rw [← hJ2]
  have f2 : J2 188 33 = dr_n (dr_n (J' 188 33)) := by rw [hJ2, hn_u_eq, va_up, if_pos rfl]
  refine b_istore_n rfl (Nat.le_of_ble_eq_true rfl) ?_
  refine b_aload_n rfl rfl ?_
  refine b_iconst rfl ?_
  refine b_callV rfl rfl hk_M_draw rfl rfl rfl (by first | rfl | assumption) rfl (Nat.le_of_ble_eq_true rfl) (q_M_draw (by decide)) (Nat.le_of_ble_eq_true rfl) (fun r_20 D_20 q_20 => ?_)
  obtain ⟨rfl, rfl⟩ := q_20
  rw [f2, ea]
  refine b_istore_n rfl (Nat.le_of_ble_eq_true rfl) ?_
  exact L24 _ (fun b hb => by rw [hn_u_ne _ _ _ hb, hJ2, hn_u_ne _ _ _ hb, hJ1, hn_u_ne _ _ _ hb]) (by rw [hn_u_eq, va_up, if_pos rfl])
/-! seasons -/
theorem sp_hr_lt {q : sp_Q} {odd : Int32} (h4 : N.2.1 ≤ 4) : sp_lt 4 (sp_hr N 0 odd q).2 := by
  have key : ∀ m, m ≤ 4 → sp_lt 4 (sp_up (sp_ps N.1 (nK N) (nH N) (nF N) 0 (qS q) N.2.1 odd) ((qW q, qP q, qH q), 0) m).2 := by
    intro m
    induction m with
    | zero => intro _; exact sp_lt_0
    | succ m ih =>
      intro hm
      have ih := ih (by omega)
      show sp_lt 4 (sp_ps N.1 (nK N) (nH N) (nF N) 0 (qS q) N.2.1 odd m (sp_up (sp_ps N.1 (nK N) (nH N) (nF N) 0 (qS q) N.2.1 odd) ((qW q, qP q, qH q), 0) m)).2
      generalize sp_up (sp_ps N.1 (nK N) (nH N) (nF N) 0 (qS q) N.2.1 odd) ((qW q, qP q, qH q), 0) m = T at ih ⊢
      unfold sp_ps
      split
      · split
        · exact ih
        · simp only
          split
          · exact sp_lt_or ih (sp_lt_shl (by omega) (by omega))
          · exact ih
      · exact ih
  exact key N.2.1 h4
theorem bc_hr {q : sp_Q} {odd : Int32} (h4 : N.2.1 ≤ 4) : bc_f (sp_hr N 0 odd q).2 = sp_pop (sp_hr N 0 odd q).2 := by
  obtain ⟨i, hi, e⟩ := sp_hr_lt (N := N) (q := q) (odd := odd) h4
  exact bc_b8 ⟨⟨i, by omega⟩, e⟩
def se_d (N : sp_N) (q : sp_Q) (g : Int64) : sp_Q × Int32 := if N.2.1 = 0 then (q, 0) else dd N q g
def se_g (N : sp_N) (g : Int64) : Int64 := if N.2.1 = 0 then g else dr_n (dr_n (dr_n g))
def se (N : sp_N) (Q : sp_Q) (g : Int64) : Nat → sp_Q × Int64 × Int32 := sp_up (fun _ s => ((sp_hr N 0 (-1) (se_d N s.1 s.2.1).1).1, se_g N s.2.1, s.2.2 + (se_d N s.1 s.2.1).2 + sp_pop (sp_hr N 0 (-1) (se_d N s.1 s.2.1).1).2)) (Q, g, 0)
theorem se_g_in {g : Int64} (h : dr_in g) : dr_in (se_g N g) := by
  unfold se_g
  split
  · exact h
  · exact dr_n_in (dr_n_in (dr_n_in h))
theorem se_d_w {q : sp_Q} {g : Int64} (hg : dr_in g) (h8 : N.1 ≤ 8) (h4 : N.2.1 ≤ 4) (hn : 0 < N.2.1 → 1 ≤ N.1) (hw : hs_Qw N.1 N.2.1 q) : hs_Qw N.1 N.2.1 (se_d N q g).1 := by
  unfold se_d
  split
  · exact hw
  · exact dd_w hg h8 h4 (hn (by omega)) (by omega) hw
theorem se_w {g : Int64} (hg : dr_in g) (h8 : N.1 ≤ 8) (h4 : N.2.1 ≤ 4) (hn : 0 < N.2.1 → 1 ≤ N.1) (hw : hs_Qw N.1 N.2.1 Q) : ∀ i, hs_Qw N.1 N.2.1 (se N Q g i).1 ∧ dr_in (se N Q g i).2.1
  | 0 => ⟨hw, hg⟩
  | i + 1 => by
    have ih := se_w hg h8 h4 hn hw i
    exact ⟨sp_hr_w h4 (se_d_w ih.2 h8 h4 hn ih.1), se_g_in ih.2⟩
theorem dd_01 {q : sp_Q} {g : Int64} : (se_d N q g).2 = 0 ∨ (se_d N q g).2 = 1 := by
  unfold se_d dd dd_q
  split
  · exact Or.inl rfl
  · split
    · exact Or.inl rfl
    · split
      · exact Or.inl rfl
      · split
        · exact if01 _
        · exact Or.inl rfl
abbrev se_ok (x y w : Int32) : Prop := (0 ≤ x.toInt ∧ x.toInt ≤ 9999) ∧ (1 ≤ y.toInt ∧ y.toInt ≤ 99) ∧ 0 ≤ w.toInt ∧ w.toInt ≤ 2
def v_seasons (N : sp_N) (Q : sp_Q) (x y w : Int32) : Int32 := if se_ok x y w then (if w = 0 then (se N Q x.toInt64 y.toInt.toNat).2.2 else if w = 1 then sp_lying (qP (se N Q x.toInt64 y.toInt.toNat).1) N.2.1 else sp_wills (qW (se N Q x.toInt64 y.toInt.toNat).1) N.2.1) else -1
theorem se_seed {x : Int32} (h : 0 ≤ x.toInt ∧ x.toInt ≤ 9999) : dr_in x.toInt64 := by
  unfold dr_in
  rw [Int32.toInt_toInt64]
  omega
theorem q_X_seasons {x y w : Int32} (hA : hs_A I R t N Q) (hn : 0 < N.2.1 → 1 ≤ N.1) : hn_F 6 hm_X_seasons [.ref 0, .int x, .int y, .int w] (I, J, R) (fun r D' => hs_sx t I J R D' ∧ r = some (.int (v_seasons N Q x y w))) := by
  have hA0 := hA
  obtain ⟨hR, r2, ht, hN, hX, hw, hz, hAw⟩ := hA
  have hN0 := hN
  have hX0 := hX
  have hw0 := hw
  obtain ⟨n0, n8, n4, nk, nh, na, hc, ncd⟩ := hN
  obtain ⟨x1, x2, x3, x4, x5, x6, x7⟩ := hX
  obtain ⟨r6, r7, r8, r11, r12, r13, r14, r15, r16, r17, r18⟩ := hs_x0 hR
  have hSt := hs_St_of hR (show 44 ∈ hs_sc by decide)
  have hNt := hs_Net_of hR ht
  obtain ⟨_, sk0, sk1, sk2, sk3, sk4, g0, g1, g2, g3⟩ := id hSt
  obtain ⟨tt5, tn0, tn1, tn2, tn3, tn4, tn5, tn6, tn7, tn8, tn9, tn10, ts1, ts2, ts3, ts4, ts5, ts7, ts8, tl0, tl2, tl6, tl7⟩ := id hNt
  have hSt9 := hs_St_of hR (show 49 ∈ hs_sc by decide)
  have t9999 : (9999 : Int32).toInt = 9999 := rfl
  have t99 : (99 : Int32).toInt = 99 := rfl
  have t2 : (2 : Int32).toInt = 2 := rfl
  refine hn_F_of _ hk_X_seasons rfl (Nat.le_of_ble_eq_true rfl) ?_
  by_cases hok : se_ok x y w
  · obtain ⟨hx, hy, hw9⟩ := id hok
    obtain ⟨m, hm, hym⟩ : ∃ m, m ≤ 99 ∧ y = nI m := ⟨y.toInt.toNat, by omega, hi_nI (by omega)⟩
    have hme : y.toInt.toNat = m := by rw [hym, nI_toInt (by omega)]; omega
    have hsd := se_seed hx
    obtain ⟨P, hPd⟩ : ∃ P : Option Value → hnD → Prop, P = (fun r D' => hs_sx t I J R D' ∧ r = some (.int (v_seasons N Q x y w))) := ⟨_, rfl⟩
    rw [← hPd]
    have hPd2 : P = (fun r D' => hs_sx t I J R D' ∧ r = some (.int (if w = 0 then (se N Q x.toInt64 m).2.2 else if w = 1 then sp_lying (qP (se N Q x.toInt64 m).1) N.2.1 else sp_wills (qW (se N Q x.toInt64 m).1) N.2.1))) := by rw [hPd, v_seasons, if_pos hok, hme]
    have hse := se_w hsd n8 n4 hn hw0
    have sx : ∀ I' J' q, hs_xt t N I q 0 I' → hs_j0 J J' → hs_sx t I J R (I', J', R) := fun I' J' q h hj => ⟨rfl, h.1, fun b hb _ _ => hj b hb, hs_xt_z hA0 h⟩
    have lp : ∀ I' J', hs_xt t N I (se N Q x.toInt64 0).1 0 I' → hs_j0 J J' → J' 0 19 = (se N Q x.toInt64 0).2.1 → hn_B 6 hm_X_seasons P 56 [.ref 0, .int x, .int y, .int w, .int (se N Q x.toInt64 0).2.2, .int (nI 0)] [] (I', J', R) := by
      refine sp_ind m (fun i => ∀ I' J', hs_xt t N I (se N Q x.toInt64 i).1 0 I' → hs_j0 J J' → J' 0 19 = (se N Q x.toInt64 i).2.1 → hn_B 6 hm_X_seasons P 56 [.ref 0, .int x, .int y, .int w, .int (se N Q x.toInt64 i).2.2, .int (nI i)] [] (I', J', R)) ?_ ?_
      · intro I' J' h hj hg
        refine b_iload rfl rfl ?_
        refine b_iload_n rfl rfl ?_
        refine b_icmp_ge rfl (fun c_59 => ?_) (fun c_59 => ?_)
        · refine b_iload_n rfl rfl ?_
          refine b_if_ne rfl (fun c_99 => ?_) (fun c_99 => ?_)
          · refine b_iload_n rfl rfl ?_
            refine b_iconst rfl ?_
            refine b_icmp_ne rfl (fun c_107 => ?_) (fun c_107 => ?_)
            · refine b_aload_n rfl rfl ?_
              refine b_getR rfl (by first | rfl | assumption) rfl (by assumption) ?_
              refine b_callV rfl rfl hk_State_willOfAll rfl rfl rfl (by first | rfl | assumption) rfl (Nat.le_of_ble_eq_true rfl) (q_State_willOfAll hSt9 h.2.1.2.2.2.2.1 n4) (Nat.le_of_ble_eq_true rfl) (fun r_124 D_124 q_124 => ?_)
              obtain ⟨rfl, hq⟩ := q_124
              rw [h.2.1.2.1] at hq
              subst hq
              exact b_ireturn rfl trivial ((by rw [hPd2]; first | exact ⟨sx _ _ _ h hj, by rw [if_neg c_99, if_pos c_107]⟩ | exact ⟨sx _ _ _ h hj, by rw [if_neg c_99, if_neg c_107]⟩))
            · refine b_aload_n rfl rfl ?_
              refine b_getR rfl (by first | rfl | assumption) rfl (by assumption) ?_
              refine b_callV rfl rfl hk_State_lying rfl rfl rfl (by first | rfl | assumption) rfl (Nat.le_of_ble_eq_true rfl) (q_State_lying hSt9 h.2.1.2.2.2.2.1 n4) (Nat.le_of_ble_eq_true rfl) (fun r_114 D_114 q_114 => ?_)
              obtain ⟨rfl, hq⟩ := q_114
              rw [P3_lying h.2.1.2.2.1] at hq
              subst hq
              refine b_goto rfl ?_
              exact b_ireturn rfl trivial ((by rw [hPd2]; first | exact ⟨sx _ _ _ h hj, by rw [if_neg c_99, if_pos c_107]⟩ | exact ⟨sx _ _ _ h hj, by rw [if_neg c_99, if_neg c_107]⟩))
          · refine b_iload rfl rfl ?_
            exact b_ireturn rfl trivial ((by rw [hPd2]; exact ⟨sx _ _ _ h hj, by rw [if_pos c_99]⟩))
        · exact absurd (by rw [hym]; exact nI_le (Nat.le_refl _) (by omega)) c_59
      · intro i hi ih I' J' h hj hg
        have hs : se N Q x.toInt64 (i + 1) = ((sp_hr N 0 (-1) (se_d N (se N Q x.toInt64 i).1 (se N Q x.toInt64 i).2.1).1).1, se_g N (se N Q x.toInt64 i).2.1, (se N Q x.toInt64 i).2.2 + (se_d N (se N Q x.toInt64 i).1 (se N Q x.toInt64 i).2.1).2 + sp_pop (sp_hr N 0 (-1) (se_d N (se N Q x.toInt64 i).1 (se N Q x.toInt64 i).2.1).1).2) := rfl
        rw [hs] at ih
        have hsi := hse i
        generalize (se N Q x.toInt64 i).1 = q at ih hsi h
        generalize (se N Q x.toInt64 i).2.1 = g at ih hsi hg
        generalize (se N Q x.toInt64 i).2.2 = o at ih ⊢
        have hdw := se_d_w hsi.2 n8 n4 hn hsi.1
        have hcall := q_X_falls_d (J' := J') hA0 h hn (by rw [hg]; exact hsi.2)
        rw [hg] at hcall
        have hd1 := dd_01 (N := N) (q := q) (g := g)
        have ed : (if N.2.1 = 0 then (q, 0) else dd N q g) = se_d N q g := rfl
        have eg : (if N.2.1 = 0 then g else dr_n (dr_n (dr_n g))) = se_g N g := rfl
        rw [ed, eg] at hcall
        generalize se_d N q g = d at ih hdw hcall hd1
        obtain ⟨dq, df⟩ := d
        simp only at ih hdw hcall hd1
        have tail : ∀ I2 J2 (o2 : Int32), hs_xt t N I dq 0 I2 → hs_j0 J J2 → J2 0 19 = se_g N g → o2 = o + df → hn_B 6 hm_X_seasons P 72 [.ref 0, .int x, .int y, .int w, .int o2, .int (nI i)] [] (I2, J2, R) := by
          intro I2 J2 o2 h2 hj2 hg2 ho2
          subst ho2
          refine b_iload rfl rfl ?_
          refine b_aload_n rfl rfl ?_
          refine b_getR rfl (by first | rfl | assumption) rfl (by assumption) ?_
          refine b_aload_n rfl rfl ?_
          refine b_getR rfl (by first | rfl | assumption) rfl (by assumption) ?_
          refine b_iconst rfl ?_
          refine b_callV rfl rfl hk_State_passHour rfl rfl rfl (by first | rfl | assumption) rfl (Nat.le_of_ble_eq_true rfl) (qx_th (odd := -1) hA0 h2) (Nat.le_of_ble_eq_true rfl) (fun r_83 D_83 q_83 => ?_)
          obtain ⟨⟨I3, rfl, h3⟩, rfl⟩ := q_83
          refine b_callS rfl rfl hk_JI_bitCount rfl rfl rfl (Nat.le_of_ble_eq_true rfl) (q_bitCount) (Nat.le_of_ble_eq_true rfl) (fun r_86 D_86 q_86 => ?_)
          obtain ⟨rfl, rfl⟩ := q_86
          rw [bc_hr n4]
          refine b_iadd rfl ?_
          refine b_istore rfl (Nat.le_of_ble_eq_true rfl) ?_
          refine b_iinc rfl rfl (Nat.le_of_ble_eq_true rfl) ?_
          refine b_goto rfl ?_
          exact b_lp (ih I3 J2 h3 hj2 hg2) (le_e (le_e (le_e (le_e (le_e (le_q (by rw [nI_succ]) le_0)))))) rfl rfl
        rcases hd1 with rfl | rfl
        · refine b_iload rfl rfl ?_
          refine b_iload_n rfl rfl ?_
          refine b_icmp_ge rfl (fun c_59 => ?_) (fun c_59 => ?_)
          · exact absurd (by rw [← hym]; exact c_59) (nI_ge hi (by omega))
          · refine b_aload_n rfl rfl ?_
            refine b_callV rfl rfl hk_X_fallsByDraws rfl rfl rfl (by first | rfl | assumption) rfl (Nat.le_of_ble_eq_true rfl) (hcall) (Nat.le_of_ble_eq_true rfl) (fun r_63 D_63 q_63 => ?_)
            obtain ⟨⟨I2, J2, rfl, h2, hj2, hg2⟩, rfl⟩ := q_63
            refine b_if_eq rfl (fun c_66 => ?_) (fun c_66 => ?_)
            · exact tail I2 J2 o h2 (fun b hb => (hj2 b hb).trans (hj b hb)) hg2 (Int32.add_zero o).symm
            · exact absurd rfl c_66
        · refine b_iload rfl rfl ?_
          refine b_iload_n rfl rfl ?_
          refine b_icmp_ge rfl (fun c_59 => ?_) (fun c_59 => ?_)
          · exact absurd (by rw [← hym]; exact c_59) (nI_ge hi (by omega))
          · refine b_aload_n rfl rfl ?_
            refine b_callV rfl rfl hk_X_fallsByDraws rfl rfl rfl (by first | rfl | assumption) rfl (Nat.le_of_ble_eq_true rfl) (hcall) (Nat.le_of_ble_eq_true rfl) (fun r_63 D_63 q_63 => ?_)
            obtain ⟨⟨I2, J2, rfl, h2, hj2, hg2⟩, rfl⟩ := q_63
            refine b_if_eq rfl (fun c_66 => ?_) (fun c_66 => ?_)
            · exact absurd c_66 (by decide)
            · refine b_iinc rfl rfl (Nat.le_of_ble_eq_true rfl) ?_
              exact tail I2 J2 (o + 1) h2 (fun b hb => (hj2 b hb).trans (hj b hb)) hg2 rfl
    refine b_iload_n rfl rfl ?_
    refine b_if_lt rfl (fun c_1 => ?_) (fun c_1 => ?_)
    · exact absurd ((hi_lt rfl hi_t0).mp c_1) (by omega)
    · refine b_iload_n rfl rfl ?_
      refine b_sipush rfl ?_
      refine b_icmp_gt rfl (fun c_8 => ?_) (fun c_8 => ?_)
      · exact absurd ((hi_lt t9999 rfl).mp c_8) (by omega)
      · refine b_iload_n rfl rfl ?_
        refine b_iconst rfl ?_
        refine b_icmp_lt rfl (fun c_13 => ?_) (fun c_13 => ?_)
        · exact absurd ((hi_lt rfl hi_t1).mp c_13) (by omega)
        · refine b_iload_n rfl rfl ?_
          refine b_bipush rfl ?_
          refine b_icmp_gt rfl (fun c_19 => ?_) (fun c_19 => ?_)
          · exact absurd ((hi_lt t99 rfl).mp c_19) (by omega)
          · refine b_iload_n rfl rfl ?_
            refine b_if_lt rfl (fun c_23 => ?_) (fun c_23 => ?_)
            · exact absurd ((hi_lt rfl hi_t0).mp c_23) (by omega)
            · refine b_iload_n rfl rfl ?_
              refine b_iconst rfl ?_
              refine b_icmp_le rfl (fun c_28 => ?_) (fun c_28 => ?_)
              · refine b_aload_n rfl rfl ?_
                refine b_getR rfl (by first | rfl | assumption) rfl (by assumption) ?_
                refine b_aload_n rfl rfl ?_
                refine b_getR rfl (by first | rfl | assumption) rfl (by assumption) ?_
                refine b_callV rfl rfl hk_State_copy rfl rfl rfl (by first | rfl | assumption) rfl (Nat.le_of_ble_eq_true rfl) (qx_tc hA0 (fun _ _ => rfl) hz rfl) (Nat.le_of_ble_eq_true rfl) (fun r_41 D_41 q_41 => ?_)
                obtain ⟨rfl, I1, rfl, h1⟩ := q_41
                refine b_aload_n rfl rfl ?_
                refine b_iload_n rfl rfl ?_
                refine b_i2l rfl ?_
                refine b_putL rfl (by first | rfl | assumption) rfl rfl (fun _ => ⟨rfl, rfl⟩) ?_
                refine b_iconst rfl ?_
                refine b_istore rfl (Nat.le_of_ble_eq_true rfl) ?_
                refine b_iconst rfl ?_
                refine b_istore rfl (Nat.le_of_ble_eq_true rfl) ?_
                exact b_lp (lp I1 (hn_u J 0 19 x.toInt64) h1 (fun b hb => hn_u_ne _ _ _ hb) (by rw [hn_u_eq, va_up, if_pos rfl]; rfl)) (le_e (le_e (le_e (le_e (le_q (by rfl) (le_q (by rw [nI_0]) le_0)))))) rfl rfl
              · exact absurd ((hi_le rfl t2).mpr hw9.2) c_28
  · rw [v_seasons, if_neg hok]
    refine b_iload_n rfl rfl ?_
    refine b_if_lt rfl (fun c_1 => ?_) (fun c_1 => ?_)
    · refine b_iconst rfl ?_
      exact b_ireturn rfl trivial (⟨hs_sx_r hz, rfl⟩)
    · refine b_iload_n rfl rfl ?_
      refine b_sipush rfl ?_
      refine b_icmp_gt rfl (fun c_8 => ?_) (fun c_8 => ?_)
      · refine b_iconst rfl ?_
        exact b_ireturn rfl trivial (⟨hs_sx_r hz, rfl⟩)
      · refine b_iload_n rfl rfl ?_
        refine b_iconst rfl ?_
        refine b_icmp_lt rfl (fun c_13 => ?_) (fun c_13 => ?_)
        · refine b_iconst rfl ?_
          exact b_ireturn rfl trivial (⟨hs_sx_r hz, rfl⟩)
        · refine b_iload_n rfl rfl ?_
          refine b_bipush rfl ?_
          refine b_icmp_gt rfl (fun c_19 => ?_) (fun c_19 => ?_)
          · refine b_iconst rfl ?_
            exact b_ireturn rfl trivial (⟨hs_sx_r hz, rfl⟩)
          · refine b_iload_n rfl rfl ?_
            refine b_if_lt rfl (fun c_23 => ?_) (fun c_23 => ?_)
            · refine b_iconst rfl ?_
              exact b_ireturn rfl trivial (⟨hs_sx_r hz, rfl⟩)
            · refine b_iload_n rfl rfl ?_
              refine b_iconst rfl ?_
              refine b_icmp_le rfl (fun c_28 => ?_) (fun c_28 => ?_)
              · exact absurd ⟨⟨by have := mt (hi_lt (x := x) rfl hi_t0).mpr c_1; omega, by have := mt (hi_lt (y := x) t9999 rfl).mpr c_8; omega⟩, ⟨by have := mt (hi_lt (x := y) rfl hi_t1).mpr c_13; omega, by have := mt (hi_lt (y := y) t99 rfl).mpr c_19; omega⟩, by have := mt (hi_lt (x := w) rfl hi_t0).mpr c_23; omega, (hi_le rfl t2).mp c_28⟩ hok
              · refine b_iconst rfl ?_
                exact b_ireturn rfl trivial (⟨hs_sx_r hz, rfl⟩)
theorem q_M_seasons {x y w : Int32} (hB : hs_B I R N Q) (hn1 : 0 < N.2.1 → 1 ≤ N.1) : hn_F 5 hm_M_seasons [.ref 188, .int x, .int y, .int w] (I, J, R) (fun r D' => hs_sm I J R D' ∧ r = some (.int (v_seasons N Q x y w))) := by
  have hR9 := hB.1
  have hM9 := hs_M_of hR9
  have n8 : N.1 ≤ 8 := hB.2.1.1.2.1
  have n4 : N.2.1 ≤ 4 := hB.2.1.1.2.2.2.1
  have hw9 := hB.2.2.2.2.1
  have t9999 : (9999 : Int32).toInt = 9999 := rfl
  have t99 : (99 : Int32).toInt = 99 := rfl
  have t2 : (2 : Int32).toInt = 2 := rfl
  refine hn_F_of _ hk_M_seasons rfl (Nat.le_of_ble_eq_true rfl) ?_
  by_cases hok : se_ok x y w
  · obtain ⟨hx, hy, hww⟩ := id hok
    have qx : (0 : Int32).toInt ≤ x.toInt ∧ x.toInt ≤ (9999 : Int32).toInt := by rw [hi_t0, t9999]; exact hx
    have qy : (1 : Int32).toInt ≤ y.toInt ∧ y.toInt ≤ (99 : Int32).toInt := by rw [hi_t1, t99]; exact hy
    have qw : (0 : Int32).toInt ≤ w.toInt ∧ w.toInt ≤ (2 : Int32).toInt := by rw [hi_t0, t2]; exact hww
    obtain ⟨m, hm, hym⟩ : ∃ m, m ≤ 99 ∧ y = nI m := ⟨y.toInt.toNat, by omega, hi_nI (by omega)⟩
    have hme : y.toInt.toNat = m := by rw [hym, nI_toInt (by omega)]; omega
    have hsd := se_seed hx
    obtain ⟨P, hPd⟩ : ∃ P : Option Value → hnD → Prop, P = (fun r D' => hs_sm I J R D' ∧ r = some (.int (v_seasons N Q x y w))) := ⟨_, rfl⟩
    rw [← hPd]
    have hPd2 : P = (fun r D' => hs_sm I J R D' ∧ r = some (.int (if w = 0 then (se N Q x.toInt64 m).2.2 else if w = 1 then sp_lying (qP (se N Q x.toInt64 m).1) N.2.1 else sp_wills (qW (se N Q x.toInt64 m).1) N.2.1))) := by rw [hPd, v_seasons, if_pos hok, hme]
    have hse := se_w hsd n8 n4 hn1 hw9
    have lp : ∀ I' J', hs_sm I J R (I', J', R) → hs_Qm I' 1034 (se N Q x.toInt64 0).1 → J' 188 33 = (se N Q x.toInt64 0).2.1 → hn_B 5 hm_M_seasons P 59 [.ref 188, .int x, .int y, .int w, .int (se N Q x.toInt64 0).2.2, .int (nI 0)] [] (I', J', R) := by
      refine sp_ind m (fun i => ∀ I' J', hs_sm I J R (I', J', R) → hs_Qm I' 1034 (se N Q x.toInt64 i).1 → J' 188 33 = (se N Q x.toInt64 i).2.1 → hn_B 5 hm_M_seasons P 59 [.ref 188, .int x, .int y, .int w, .int (se N Q x.toInt64 i).2.2, .int (nI i)] [] (I', J', R)) ?_ ?_
      · intro I' J' h g hg
        have hB' := hs_B_sm hB h
        refine b_iload rfl rfl ?_
        refine b_iload_n rfl rfl ?_
        refine b_icmp_ge rfl (fun c_62 => ?_) (fun c_62 => ?_)
        · refine b_iload_n rfl rfl ?_
          refine b_if_ne rfl (fun c_112 => ?_) (fun c_112 => ?_)
          · refine b_iload_n rfl rfl ?_
            refine b_iconst rfl ?_
            refine b_icmp_ne rfl (fun c_122 => ?_) (fun c_122 => ?_)
            · refine b_aload_n rfl rfl ?_
              refine b_sipush rfl ?_
              refine b_callV rfl rfl hk_M_willOfAll rfl rfl rfl (by first | rfl | assumption) rfl (Nat.le_of_ble_eq_true rfl) (q_M_willOfAll hM9 g.1 hB'.2.1.1.2.2.1 n4 rfl) (Nat.le_of_ble_eq_true rfl) (fun r_139 D_139 q_139 => ?_)
              obtain ⟨rfl, rfl⟩ := q_139
              exact b_ireturn rfl trivial ((by rw [hPd2]; first | exact ⟨h, by rw [if_pos c_112]⟩ | exact ⟨h, by rw [if_neg c_112, if_pos c_122]⟩ | exact ⟨h, by rw [if_neg c_112, if_neg c_122]⟩))
            · refine b_aload_n rfl rfl ?_
              refine b_sipush rfl ?_
              refine b_callV rfl rfl hk_M_lying rfl rfl rfl (by first | rfl | assumption) rfl (Nat.le_of_ble_eq_true rfl) (q_M_lying hM9 g.1 n8 (hse m).1.1 hB'.2.1.1.2.2.1 n4 rfl) (Nat.le_of_ble_eq_true rfl) (fun r_129 D_129 q_129 => ?_)
              obtain ⟨rfl, rfl⟩ := q_129
              refine b_goto rfl ?_
              exact b_ireturn rfl trivial ((by rw [hPd2]; first | exact ⟨h, by rw [if_pos c_112]⟩ | exact ⟨h, by rw [if_neg c_112, if_pos c_122]⟩ | exact ⟨h, by rw [if_neg c_112, if_neg c_122]⟩))
          · refine b_iload rfl rfl ?_
            refine b_goto rfl ?_
            exact b_ireturn rfl trivial ((by rw [hPd2]; first | exact ⟨h, by rw [if_pos c_112]⟩ | exact ⟨h, by rw [if_neg c_112, if_pos c_122]⟩ | exact ⟨h, by rw [if_neg c_112, if_neg c_122]⟩))
        · exact absurd (by rw [hym]; exact nI_le (Nat.le_refl _) (by omega)) c_62
      · intro i hi ih I' J' h g hg
        have hB' := hs_B_sm hB h
        have hnp9 : I' 194 3 = nI N.2.1 := hB'.2.1.1.2.2.1
        have hs : se N Q x.toInt64 (i + 1) = ((sp_hr N 0 (-1) (se_d N (se N Q x.toInt64 i).1 (se N Q x.toInt64 i).2.1).1).1, se_g N (se N Q x.toInt64 i).2.1, (se N Q x.toInt64 i).2.2 + (se_d N (se N Q x.toInt64 i).1 (se N Q x.toInt64 i).2.1).2 + sp_pop (sp_hr N 0 (-1) (se_d N (se N Q x.toInt64 i).1 (se N Q x.toInt64 i).2.1).1).2) := rfl
        rw [hs] at ih
        have hsi := hse i
        generalize (se N Q x.toInt64 i).1 = q at ih hsi g
        generalize (se N Q x.toInt64 i).2.1 = z at ih hsi hg
        generalize (se N Q x.toInt64 i).2.2 = o at ih ⊢
        have hdw := se_d_w hsi.2 n8 n4 hn1 hsi.1
        have hd1 := dd_01 (N := N) (q := q) (g := z)
        have tail : ∀ I2 J2 (v : Int32), hs_sm I J R (I2, J2, R) → hs_Qm I2 1034 (se_d N q z).1 → J2 188 33 = se_g N z → v = (se_d N q z).2 → hn_B 5 hm_M_seasons P 86 [.ref 188, .int x, .int y, .int w, .int o, .int (nI i)] [.int v, .int o] (I2, J2, R) := by
          intro I2 J2 v h2 g2 hg2 hv
          subst hv
          refine b_iadd rfl ?_
          refine b_istore rfl (Nat.le_of_ble_eq_true rfl) ?_
          refine b_iload rfl rfl ?_
          refine b_aload_n rfl rfl ?_
          refine b_sipush rfl ?_
          refine b_iconst rfl ?_
          refine b_callV rfl rfl hk_M_passes rfl rfl rfl (by first | rfl | assumption) rfl (Nat.le_of_ble_eq_true rfl) (qm_th (odd := -1) hB h2 (by omega) g2 hdw rfl) (Nat.le_of_ble_eq_true rfl) (fun r_96 D_96 q_96 => ?_)
          obtain ⟨⟨I3, rfl, h3, g3, _⟩, rfl⟩ := q_96
          refine b_callS rfl rfl hk_M_bits rfl rfl rfl (Nat.le_of_ble_eq_true rfl) (q_M_bits) (Nat.le_of_ble_eq_true rfl) (fun r_99 D_99 q_99 => ?_)
          obtain ⟨rfl, rfl⟩ := q_99
          refine b_iadd rfl ?_
          refine b_istore rfl (Nat.le_of_ble_eq_true rfl) ?_
          refine b_iinc rfl rfl (Nat.le_of_ble_eq_true rfl) ?_
          refine b_goto rfl ?_
          exact b_lp (ih I3 J2 h3 g3 hg2) (le_e (le_e (le_e (le_e (le_e (le_q (by rw [nI_succ]) le_0)))))) rfl rfl
        by_cases hp0 : N.2.1 = 0
        · refine b_iload rfl rfl ?_
          refine b_iload_n rfl rfl ?_
          refine b_icmp_ge rfl (fun c_62 => ?_) (fun c_62 => ?_)
          · exact absurd (by rw [← hym]; exact c_62) (nI_ge hi (by omega))
          · refine b_iload rfl rfl ?_
            refine b_aload_n rfl rfl ?_
            refine b_callV rfl rfl hk_M_persons rfl rfl rfl (by first | rfl | assumption) rfl (Nat.le_of_ble_eq_true rfl) (q_M_persons hM9 hnp9) (Nat.le_of_ble_eq_true rfl) (fun r_68 D_68 q_68 => ?_)
            obtain ⟨rfl, rfl⟩ := q_68
            refine b_if_le rfl (fun c_71 => ?_) (fun c_71 => ?_)
            · refine b_iconst rfl ?_
              exact tail I' J' 0 h (by rw [show se_d N q z = (q, 0) from if_pos hp0]; exact g) (by rw [show se_g N z = z from if_pos hp0]; exact hg) (by rw [show se_d N q z = (q, 0) from if_pos hp0])
            · exact absurd (by rw [hp0]; decide) c_71
        · have e1 : se_d N q z = dd N q z := if_neg hp0
          have e2 : se_g N z = dr_n (dr_n (dr_n z)) := if_neg hp0
          have hcall := q_M_drawsDeed hB h g hsi.1 (hn1 (by omega)) (by omega) (by rw [hg]; exact hsi.2)
          rw [hg, ← e1, ← e2] at hcall
          rcases hd1 with hd | hd
          · refine b_iload rfl rfl ?_
            refine b_iload_n rfl rfl ?_
            refine b_icmp_ge rfl (fun c_62 => ?_) (fun c_62 => ?_)
            · exact absurd (by rw [← hym]; exact c_62) (nI_ge hi (by omega))
            · refine b_iload rfl rfl ?_
              refine b_aload_n rfl rfl ?_
              refine b_callV rfl rfl hk_M_persons rfl rfl rfl (by first | rfl | assumption) rfl (Nat.le_of_ble_eq_true rfl) (q_M_persons hM9 hnp9) (Nat.le_of_ble_eq_true rfl) (fun r_68 D_68 q_68 => ?_)
              obtain ⟨rfl, rfl⟩ := q_68
              refine b_if_le rfl (fun c_71 => ?_) (fun c_71 => ?_)
              · exact absurd c_71 (fun w9 => hp0 (by have := (hi_le (nI_toInt (n := N.2.1) (by omega)) hi_t0).mp w9; omega))
              · refine b_aload_n rfl rfl ?_
                refine b_callV rfl rfl hk_M_drawsDeed rfl rfl rfl (by first | rfl | assumption) rfl (Nat.le_of_ble_eq_true rfl) (hcall) (Nat.le_of_ble_eq_true rfl) (fun r_75 D_75 q_75 => ?_)
                obtain ⟨⟨I2, J2, rfl, h2, g2, hg2⟩, hq⟩ := q_75
                rw [hd] at hq
                subst hq
                refine b_if_eq rfl (fun c_78 => ?_) (fun c_78 => ?_)
                · refine b_iconst rfl ?_
                  exact tail I2 J2 0 h2 g2 hg2 hd.symm
                · exact absurd rfl c_78
          · refine b_iload rfl rfl ?_
            refine b_iload_n rfl rfl ?_
            refine b_icmp_ge rfl (fun c_62 => ?_) (fun c_62 => ?_)
            · exact absurd (by rw [← hym]; exact c_62) (nI_ge hi (by omega))
            · refine b_iload rfl rfl ?_
              refine b_aload_n rfl rfl ?_
              refine b_callV rfl rfl hk_M_persons rfl rfl rfl (by first | rfl | assumption) rfl (Nat.le_of_ble_eq_true rfl) (q_M_persons hM9 hnp9) (Nat.le_of_ble_eq_true rfl) (fun r_68 D_68 q_68 => ?_)
              obtain ⟨rfl, rfl⟩ := q_68
              refine b_if_le rfl (fun c_71 => ?_) (fun c_71 => ?_)
              · exact absurd c_71 (fun w9 => hp0 (by have := (hi_le (nI_toInt (n := N.2.1) (by omega)) hi_t0).mp w9; omega))
              · refine b_aload_n rfl rfl ?_
                refine b_callV rfl rfl hk_M_drawsDeed rfl rfl rfl (by first | rfl | assumption) rfl (Nat.le_of_ble_eq_true rfl) (hcall) (Nat.le_of_ble_eq_true rfl) (fun r_75 D_75 q_75 => ?_)
                obtain ⟨⟨I2, J2, rfl, h2, g2, hg2⟩, hq⟩ := q_75
                rw [hd] at hq
                subst hq
                refine b_if_eq rfl (fun c_78 => ?_) (fun c_78 => ?_)
                · exact absurd c_78 (by decide)
                · refine b_iconst rfl ?_
                  refine b_goto rfl ?_
                  exact tail I2 J2 1 h2 g2 hg2 hd.symm
    refine b_aload_n rfl rfl ?_
    refine b_iconst rfl ?_
    refine b_putI rfl (by first | rfl | assumption) rfl rfl ⟨rfl, rfl⟩ ?_
    have hB1 := hs_B_0 (v := 0) hB
    have hs0 : hs_sm I J R (hn_u I 188 0 0, J, R) := hs_sm_0
    obtain ⟨I0, h0⟩ : ∃ z, z = hn_u I 188 0 0 := ⟨_, rfl⟩
    rw [← h0] at hB1 hs0 ⊢
    have e0 : ∀ b, b ≠ 188 → I0 b = I b := fun b hb => by rw [h0, hn_u_ne _ _ _ hb]
    have e188 : ∀ j, j ≠ 0 → I0 188 j = I 188 j := fun j hj => by rw [h0, hn_u_eq, va_up, if_neg hj]
    have hB2 := hB1
    obtain ⟨hR, hN, hQ, hfm, hw, hAw⟩ := hB1
    have hM := hs_M_of hR
    have hN0 := hN
    have hQ0 := hQ
    have hw0 := hw
    obtain ⟨⟨hn, n8, hnp, n4, hkn⟩, hL⟩ := hN
    obtain ⟨⟨_, hVs, hVw, hVp, hVh⟩, hVt⟩ := hQ
    simp only [Nat.zero_add] at hVs hVw hVp hVh
    obtain ⟨m1, m4, m5, m6, m9, m10, m11, m12, m14, m15, m16, m17, m20, m21, m22, m23, m25, m27, m28, m29, m30, m31, m32⟩ := id hM
    refine b_iload_n rfl rfl ?_
    refine b_iconst rfl ?_
    refine b_sipush rfl ?_
    refine b_callS rfl rfl hk_M_within rfl rfl rfl (Nat.le_of_ble_eq_true rfl) (q_M_within) (Nat.le_of_ble_eq_true rfl) (fun r_10 D_10 q_10 => ?_)
    obtain ⟨rfl, hq⟩ := q_10
    rw [if_pos qx] at hq
    subst hq
    refine b_if_eq rfl (fun c_13 => ?_) (fun c_13 => ?_)
    · exact absurd c_13 (by decide)
    · refine b_iload_n rfl rfl ?_
      refine b_iconst rfl ?_
      refine b_bipush rfl ?_
      refine b_callS rfl rfl hk_M_within rfl rfl rfl (Nat.le_of_ble_eq_true rfl) (q_M_within) (Nat.le_of_ble_eq_true rfl) (fun r_20 D_20 q_20 => ?_)
      obtain ⟨rfl, hq⟩ := q_20
      rw [if_pos qy] at hq
      subst hq
      refine b_if_eq rfl (fun c_23 => ?_) (fun c_23 => ?_)
      · exact absurd c_23 (by decide)
      · refine b_iload_n rfl rfl ?_
        refine b_iconst rfl ?_
        refine b_iconst rfl ?_
        refine b_callS rfl rfl hk_M_within rfl rfl rfl (Nat.le_of_ble_eq_true rfl) (q_M_within) (Nat.le_of_ble_eq_true rfl) (fun r_29 D_29 q_29 => ?_)
        obtain ⟨rfl, hq⟩ := q_29
        rw [if_pos qw] at hq
        subst hq
        refine b_if_ne rfl (fun c_32 => ?_) (fun c_32 => ?_)
        · refine b_aload_n rfl rfl ?_
          refine b_iconst rfl ?_
          refine b_sipush rfl ?_
          refine b_bipush rfl ?_
          refine b_callV rfl rfl hk_M_copies rfl rfl rfl (by first | rfl | assumption) rfl (Nat.le_of_ble_eq_true rfl) (q_M_copies (f := 0) (t := 1034) (m := 21) hM (by omega) (by omega) (by omega) rfl rfl rfl) (Nat.le_of_ble_eq_true rfl) (fun r_44 D_44 q_44 => ?_)
          obtain ⟨rfl, hf, h204⟩ := q_44
          obtain ⟨I2, rfl, hI2⟩ := hf.out
          replace h204 : I2 204 = va_cpy (I0 204) (I0 204) 0 1034 21 := h204
          refine b_aload_n rfl rfl ?_
          refine b_iload_n rfl rfl ?_
          refine b_i2l rfl ?_
          refine b_putL rfl (by first | rfl | assumption) rfl rfl (fun _ => ⟨rfl, rfl⟩) ?_
          refine b_iconst rfl ?_
          refine b_istore rfl (Nat.le_of_ble_eq_true rfl) ?_
          refine b_iconst rfl ?_
          refine b_istore rfl (Nat.le_of_ble_eq_true rfl) ?_
          exact b_lp (lp I2 (hn_u J 188 33 x.toInt64) ⟨rfl, fun c hc => by show I2 c = I c; rw [hI2 c (fun e => hc (by omega)), e0 c (fun e => hc (by omega))], fun j hj => by show I2 188 j = _; rw [hI2 188 (by omega), e188 j (by omega)], fun j hj => by show I2 204 j = _; rw [h204, cp_off (by omega), e0 204 (by omega)], fun b hb => hn_u_ne _ _ _ hb⟩ (hs_Qm_fr hQ0 (by omega) (fun j hj => by rw [h204]; exact cp_at hj)) (by rw [hn_u_eq, va_up, if_pos rfl]; rfl)) (le_e (le_e (le_e (le_e (le_q (by rfl) (le_q (by rw [nI_0]) le_0)))))) rfl rfl
        · exact absurd c_32 (by decide)
  · have hv : v_seasons N Q x y w = -1 := if_neg hok
    rw [hv]
    by_cases qx : (0 : Int32).toInt ≤ x.toInt ∧ x.toInt ≤ (9999 : Int32).toInt
    · by_cases qy : (1 : Int32).toInt ≤ y.toInt ∧ y.toInt ≤ (99 : Int32).toInt
      · have qw : ¬ ((0 : Int32).toInt ≤ w.toInt ∧ w.toInt ≤ (2 : Int32).toInt) := fun z => hok ⟨by rw [hi_t0, t9999] at qx; exact qx, by rw [hi_t1, t99] at qy; exact qy, by rw [hi_t0, t2] at z; exact z⟩
        refine b_aload_n rfl rfl ?_
        refine b_iconst rfl ?_
        refine b_putI rfl (by first | rfl | assumption) rfl rfl ⟨rfl, rfl⟩ ?_
        have hB1 := hs_B_0 (v := 0) hB
        have hs0 : hs_sm I J R (hn_u I 188 0 0, J, R) := hs_sm_0
        obtain ⟨I0, h0⟩ : ∃ z, z = hn_u I 188 0 0 := ⟨_, rfl⟩
        rw [← h0] at hB1 hs0 ⊢
        have e0 : ∀ b, b ≠ 188 → I0 b = I b := fun b hb => by rw [h0, hn_u_ne _ _ _ hb]
        have e188 : ∀ j, j ≠ 0 → I0 188 j = I 188 j := fun j hj => by rw [h0, hn_u_eq, va_up, if_neg hj]
        have hB2 := hB1
        obtain ⟨hR, hN, hQ, hfm, hw, hAw⟩ := hB1
        have hM := hs_M_of hR
        have hN0 := hN
        have hQ0 := hQ
        have hw0 := hw
        obtain ⟨⟨hn, n8, hnp, n4, hkn⟩, hL⟩ := hN
        obtain ⟨⟨_, hVs, hVw, hVp, hVh⟩, hVt⟩ := hQ
        simp only [Nat.zero_add] at hVs hVw hVp hVh
        obtain ⟨m1, m4, m5, m6, m9, m10, m11, m12, m14, m15, m16, m17, m20, m21, m22, m23, m25, m27, m28, m29, m30, m31, m32⟩ := id hM
        refine b_iload_n rfl rfl ?_
        refine b_iconst rfl ?_
        refine b_sipush rfl ?_
        refine b_callS rfl rfl hk_M_within rfl rfl rfl (Nat.le_of_ble_eq_true rfl) (q_M_within) (Nat.le_of_ble_eq_true rfl) (fun r_10 D_10 q_10 => ?_)
        obtain ⟨rfl, hq⟩ := q_10
        rw [if_pos qx] at hq
        subst hq
        refine b_if_eq rfl (fun c_13 => ?_) (fun c_13 => ?_)
        · exact absurd c_13 (by decide)
        · refine b_iload_n rfl rfl ?_
          refine b_iconst rfl ?_
          refine b_bipush rfl ?_
          refine b_callS rfl rfl hk_M_within rfl rfl rfl (Nat.le_of_ble_eq_true rfl) (q_M_within) (Nat.le_of_ble_eq_true rfl) (fun r_20 D_20 q_20 => ?_)
          obtain ⟨rfl, hq⟩ := q_20
          rw [if_pos qy] at hq
          subst hq
          refine b_if_eq rfl (fun c_23 => ?_) (fun c_23 => ?_)
          · exact absurd c_23 (by decide)
          · refine b_iload_n rfl rfl ?_
            refine b_iconst rfl ?_
            refine b_iconst rfl ?_
            refine b_callS rfl rfl hk_M_within rfl rfl rfl (Nat.le_of_ble_eq_true rfl) (q_M_within) (Nat.le_of_ble_eq_true rfl) (fun r_29 D_29 q_29 => ?_)
            obtain ⟨rfl, hq⟩ := q_29
            rw [if_neg qw] at hq
            subst hq
            refine b_if_ne rfl (fun c_32 => ?_) (fun c_32 => ?_)
            · exact absurd rfl c_32
            · refine b_iconst rfl ?_
              exact b_ireturn rfl trivial (⟨hs0, rfl⟩)
      · refine b_aload_n rfl rfl ?_
        refine b_iconst rfl ?_
        refine b_putI rfl (by first | rfl | assumption) rfl rfl ⟨rfl, rfl⟩ ?_
        have hB1 := hs_B_0 (v := 0) hB
        have hs0 : hs_sm I J R (hn_u I 188 0 0, J, R) := hs_sm_0
        obtain ⟨I0, h0⟩ : ∃ z, z = hn_u I 188 0 0 := ⟨_, rfl⟩
        rw [← h0] at hB1 hs0 ⊢
        have e0 : ∀ b, b ≠ 188 → I0 b = I b := fun b hb => by rw [h0, hn_u_ne _ _ _ hb]
        have e188 : ∀ j, j ≠ 0 → I0 188 j = I 188 j := fun j hj => by rw [h0, hn_u_eq, va_up, if_neg hj]
        have hB2 := hB1
        obtain ⟨hR, hN, hQ, hfm, hw, hAw⟩ := hB1
        have hM := hs_M_of hR
        have hN0 := hN
        have hQ0 := hQ
        have hw0 := hw
        obtain ⟨⟨hn, n8, hnp, n4, hkn⟩, hL⟩ := hN
        obtain ⟨⟨_, hVs, hVw, hVp, hVh⟩, hVt⟩ := hQ
        simp only [Nat.zero_add] at hVs hVw hVp hVh
        obtain ⟨m1, m4, m5, m6, m9, m10, m11, m12, m14, m15, m16, m17, m20, m21, m22, m23, m25, m27, m28, m29, m30, m31, m32⟩ := id hM
        refine b_iload_n rfl rfl ?_
        refine b_iconst rfl ?_
        refine b_sipush rfl ?_
        refine b_callS rfl rfl hk_M_within rfl rfl rfl (Nat.le_of_ble_eq_true rfl) (q_M_within) (Nat.le_of_ble_eq_true rfl) (fun r_10 D_10 q_10 => ?_)
        obtain ⟨rfl, hq⟩ := q_10
        rw [if_pos qx] at hq
        subst hq
        refine b_if_eq rfl (fun c_13 => ?_) (fun c_13 => ?_)
        · exact absurd c_13 (by decide)
        · refine b_iload_n rfl rfl ?_
          refine b_iconst rfl ?_
          refine b_bipush rfl ?_
          refine b_callS rfl rfl hk_M_within rfl rfl rfl (Nat.le_of_ble_eq_true rfl) (q_M_within) (Nat.le_of_ble_eq_true rfl) (fun r_20 D_20 q_20 => ?_)
          obtain ⟨rfl, hq⟩ := q_20
          rw [if_neg qy] at hq
          subst hq
          refine b_if_eq rfl (fun c_23 => ?_) (fun c_23 => ?_)
          · refine b_iconst rfl ?_
            exact b_ireturn rfl trivial (⟨hs0, rfl⟩)
          · exact absurd rfl c_23
    · refine b_aload_n rfl rfl ?_
      refine b_iconst rfl ?_
      refine b_putI rfl (by first | rfl | assumption) rfl rfl ⟨rfl, rfl⟩ ?_
      have hB1 := hs_B_0 (v := 0) hB
      have hs0 : hs_sm I J R (hn_u I 188 0 0, J, R) := hs_sm_0
      obtain ⟨I0, h0⟩ : ∃ z, z = hn_u I 188 0 0 := ⟨_, rfl⟩
      rw [← h0] at hB1 hs0 ⊢
      have e0 : ∀ b, b ≠ 188 → I0 b = I b := fun b hb => by rw [h0, hn_u_ne _ _ _ hb]
      have e188 : ∀ j, j ≠ 0 → I0 188 j = I 188 j := fun j hj => by rw [h0, hn_u_eq, va_up, if_neg hj]
      have hB2 := hB1
      obtain ⟨hR, hN, hQ, hfm, hw, hAw⟩ := hB1
      have hM := hs_M_of hR
      have hN0 := hN
      have hQ0 := hQ
      have hw0 := hw
      obtain ⟨⟨hn, n8, hnp, n4, hkn⟩, hL⟩ := hN
      obtain ⟨⟨_, hVs, hVw, hVp, hVh⟩, hVt⟩ := hQ
      simp only [Nat.zero_add] at hVs hVw hVp hVh
      obtain ⟨m1, m4, m5, m6, m9, m10, m11, m12, m14, m15, m16, m17, m20, m21, m22, m23, m25, m27, m28, m29, m30, m31, m32⟩ := id hM
      refine b_iload_n rfl rfl ?_
      refine b_iconst rfl ?_
      refine b_sipush rfl ?_
      refine b_callS rfl rfl hk_M_within rfl rfl rfl (Nat.le_of_ble_eq_true rfl) (q_M_within) (Nat.le_of_ble_eq_true rfl) (fun r_10 D_10 q_10 => ?_)
      obtain ⟨rfl, hq⟩ := q_10
      rw [if_neg qx] at hq
      subst hq
      refine b_if_eq rfl (fun c_13 => ?_) (fun c_13 => ?_)
      · refine b_iconst rfl ?_
        exact b_ireturn rfl trivial (⟨hs0, rfl⟩)
      · exact absurd rfl c_13
end HNmseasons
