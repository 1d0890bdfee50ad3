section HNmwalks
variable {I I' : Nat → Nat → Int32} {J J' : Nat → Nat → Int64} {R : Nat → Nat → Option Nat} {t : Nat} {N : sp_N} {Q Q' : sp_Q}
theorem hs_sm_1 {I0 I2 : Nat → Nat → Int32} {c : Nat} (h : hs_sm I J R (I0, J', R)) (hc : 206 ≤ c) (hc2 : c ≤ 211) (hf : ∀ b, b ≠ c → I2 b = I0 b) : hs_sm I J R (I2, J', R) := by
  obtain ⟨s1, s2, s3, s4, s5⟩ := h
  exact ⟨rfl, fun b hb => (hf b (fun e => hb (by unfold hs_ms; omega))).trans (s2 b hb), fun j hj => (congrFun (hf 188 (by omega)) j).trans (s3 j hj), fun j hj => (congrFun (hf 204 (by omega)) j).trans (s4 j hj), s5⟩
theorem q_M_walks {x y z : Int32} (hB : hs_B I R N Q) : hn_F 2 hm_M_walks [.ref 188, .int x, .int y, .int z] (I, J, R) (fun r D' => hs_sm I J R D' ∧ r = some (.int (v_walks N Q x y z))) := by
  have n8' : N.1 ≤ 8 := hB.2.1.1.2.1
  refine hn_F_of _ hk_M_walks rfl (Nat.le_of_ble_eq_true rfl) ?_
  by_cases hx : sp_in x N.1
  · obtain ⟨k, hk, rfl⟩ := sp_in_nat hx
    rw [v_walks, sp_at_in hk n8']
    by_cases hy : sp_in y N.1
    · obtain ⟨o, ho, rfl⟩ := sp_in_nat hy
      rw [sp_at_in ho n8']
      by_cases hzz : sp_w9 z
      · rw [if_pos hzz]
        obtain ⟨m, hm, rfl⟩ : ∃ m : Nat, m ≤ 9 ∧ z = nI m := ⟨z.toInt.toNat, by have := hzz.1; have := hzz.2; omega, hi_nI (by have := hzz.1; omega)⟩
        rw [nI_clamp (by omega)]
        obtain ⟨P, hPd⟩ : ∃ P : Option Value → hnD → Prop, P = (fun r D' => hs_sm I J R D' ∧ r = some (.int (sp_wk (qS Q) k m o))) := ⟨_, rfl⟩
        rw [← hPd]
        have main : ∀ I0, hs_B I0 R N Q → hs_sm I J R (I0, J, R) → hn_B 2 hm_M_walks P 33 [.ref 188, .int (nI k), .int (nI o), .int (nI m), .null, .null, .null] [] (I0, J, R) := by
          intro I0 hB1 hs0
          have hB0 := hB
          clear hB
          have hB := hB1
          obtain ⟨hR, hN, hQ, hfm, hw, hAw⟩ := hB
          have hM := hs_M_of hR
          have hN0 := hN
          have hQ0 := hQ
          have hw0 := hw
          obtain ⟨⟨hn, n8, hnp, n4, hkn⟩, hL⟩ := hN
          obtain ⟨⟨_, hVs, hVw, hVp, hVh⟩, hVt⟩ := hQ
          simp only [Nat.zero_add] at hVs hVw hVp hVh
          obtain ⟨m1, m4, m5, m6, m9, m10, m11, m12, m14, m15, m16, m17, m20, m21, m22, m23, m25, m27, m28, m29, m30, m31, m32⟩ := id hM
          -- the third loop: the next row comes forward
          have L163 : ∀ i (I' : Nat → Nat → Int32) (l : Value), (∀ b, b ≠ 206 → I' b = I0 b) → (∀ j, j < 8 → I' 206 (8 + j) = sp_wk (qS Q) k (i + 1) j) → (∀ (I2 : Nat → Nat → Int32) (l1 l2 : Value), (∀ b, b ≠ 206 → I2 b = I0 b) → (∀ j, j < 8 → I2 206 j = sp_wk (qS Q) k (i + 1) j) → hn_B 2 hm_M_walks P 70 [.ref 188, .int (nI k), .int (nI o), .int (nI m), .int (nI (i + 1)), l1, l2] [] (I2, J, R)) → hn_B 2 hm_M_walks P 163 [.ref 188, .int (nI k), .int (nI o), .int (nI m), .int (nI i), .int (nI 0), l] [] (I', J, R) := by
            intro i I' l hf h1 go
            refine sp_ind 8 (fun j => ∀ I2 : Nat → Nat → Int32, (∀ b, b ≠ 206 → I2 b = I0 b) → (∀ j', j' < 8 → I2 206 (8 + j') = sp_wk (qS Q) k (i + 1) j') → (∀ j', j' < j → I2 206 j' = sp_wk (qS Q) k (i + 1) j') → hn_B 2 hm_M_walks P 163 [.ref 188, .int (nI k), .int (nI o), .int (nI m), .int (nI i), .int (nI j), l] [] (I2, J, R)) ?_ ?_ I' hf h1 (fun _ h => absurd h (Nat.not_lt_zero _))
            · intro I2 g0 g1 g2
              refine b_iload rfl rfl ?_
              refine b_bipush rfl ?_
              refine b_icmp_ge rfl (fun c_167 => ?_) (fun c_167 => ?_)
              · refine b_iinc rfl rfl (Nat.le_of_ble_eq_true rfl) ?_
                refine b_goto rfl ?_
                exact b_eq (go I2 (.int (nI 8)) l g0 g2) (by rw [@nI_succ i]; rfl) rfl rfl
              · exact absurd hi_88 c_167
            · intro j hj ih I2 g0 g1 g2
              refine b_iload rfl rfl ?_
              refine b_bipush rfl ?_
              refine b_icmp_ge rfl (fun c_167 => ?_) (fun c_167 => ?_)
              · exact absurd c_167 (hi_ge8 hj)
              · refine b_aload_n rfl rfl ?_
                refine b_getR rfl (by first | rfl | assumption) rfl (by assumption) ?_
                refine b_iload rfl rfl ?_
                refine b_aload_n rfl rfl ?_
                refine b_getR rfl (by first | rfl | assumption) rfl (by assumption) ?_
                refine b_bipush rfl ?_
                refine b_iload rfl rfl ?_
                refine b_iadd rfl ?_
                refine b_iaload rfl (by first | rfl | assumption) (hi_ix (8 + j) (by rw [nI_ad]; rfl) (by omega)) (by omega) ?_
                rw [g1 j hj]
                refine b_iastore rfl (by first | rfl | assumption) (by first | assumption | exact nI_toInt (by omega) | exact hi_l0 | exact hi_l1 | exact hi_l2 | exact hi_l3 | exact hi_l4 | exact hi_l5 | exact hi_l6) (by omega) ?_
                refine b_iinc rfl rfl (Nat.le_of_ble_eq_true rfl) ?_
                refine b_goto rfl ?_
                exact b_eq (ih _ (fun b hb => by rw [hn_u_ne _ _ _ hb]; exact g0 b hb) (fun j' hj' => by rw [hn_u_eq]; unfold va_up; rw [if_neg (by omega)]; exact g1 j' hj') (fun j' hj' => by rw [hn_u_eq]; unfold va_up; by_cases e : j' = j; rw [if_pos e, e]; rw [if_neg e]; exact g2 j' (by omega))) (by rw [@nI_succ j]; rfl) rfl rfl
          -- the sum for one knot
          have L100 : ∀ i j (I' : Nat → Nat → Int32), j < 8 → (∀ b, b ≠ 206 → I' b = I0 b) → (∀ j', j' < 8 → I' 206 j' = sp_wk (qS Q) k i j') → I' 206 (8 + j) = 0 → (∀ j', j' < j → I' 206 (8 + j') = sp_wk (qS Q) k (i + 1) j') → (∀ (I2 : Nat → Nat → Int32) (l : Value), (∀ b, b ≠ 206 → I2 b = I0 b) → (∀ j', j' < 8 → I2 206 j' = sp_wk (qS Q) k i j') → (∀ j', j' < j + 1 → I2 206 (8 + j') = sp_wk (qS Q) k (i + 1) j') → hn_B 2 hm_M_walks P 79 [.ref 188, .int (nI k), .int (nI o), .int (nI m), .int (nI i), .int (nI (j + 1)), l] [] (I2, J, R)) → hn_B 2 hm_M_walks P 100 [.ref 188, .int (nI k), .int (nI o), .int (nI m), .int (nI i), .int (nI j), .int (nI 0)] [] (I', J, R) := by
            intro i j I' hj hf h1 h2 h3 go
            refine sp_ind N.1 (fun a => ∀ I2 : Nat → Nat → Int32, (∀ b, b ≠ 206 → I2 b = I0 b) → (∀ j', j' < 8 → I2 206 j' = sp_wk (qS Q) k i j') → I2 206 (8 + j) = sp_wto (qS Q) (sp_wk (qS Q) k i) j a → (∀ j', j' < j → I2 206 (8 + j') = sp_wk (qS Q) k (i + 1) j') → hn_B 2 hm_M_walks P 100 [.ref 188, .int (nI k), .int (nI o), .int (nI m), .int (nI i), .int (nI j), .int (nI a)] [] (I2, J, R)) ?_ ?_ I' hf h1 h2 h3
            · intro I2 g0 g1 g2 g3
              have hN2 : I2 194 0 = nI N.1 := by rw [g0 194 (by omega)]; exact hn
              refine b_iload rfl rfl ?_
              refine b_aload_n rfl rfl ?_
              refine b_callV rfl rfl hk_M_knots rfl rfl rfl (by first | rfl | assumption) rfl (Nat.le_of_ble_eq_true rfl) (q_M_knots hM hN2) (Nat.le_of_ble_eq_true rfl) (fun r_103 D_103 q_103 => ?_)
              obtain ⟨rfl, rfl⟩ := q_103
              refine b_icmp_ge rfl (fun c_106 => ?_) (fun c_106 => ?_)
              · refine b_iinc rfl rfl (Nat.le_of_ble_eq_true rfl) ?_
                refine b_goto rfl ?_
                exact b_eq (go I2 _ g0 g1 (fun j' hj' => by rcases (show j' < j ∨ j' = j by omega) with h | rfl; exact g3 j' h; rw [g2]; exact (sp_wto_8 hw0.2.2.1 n8).symm)) (by rw [@nI_succ j]; rfl) rfl rfl
              · exact absurd (nI_le (Nat.le_refl _) (by omega)) c_106
            · intro a ha ih I2 g0 g1 g2 g3
              have hs2 := hs_sm_1 hs0 (c := 206) (by omega) (by omega) g0
              have hB2 := hs_B_sm hB0 hs2
              have hN2 : I2 194 0 = nI N.1 := by rw [g0 194 (by omega)]; exact hn
              have hst : ∀ v, v = sp_wto (qS Q) (sp_wk (qS Q) k i) j (a + 1) → hn_B 2 hm_M_walks P 100 [.ref 188, .int (nI k), .int (nI o), .int (nI m), .int (nI i), .int (nI j), .int (nI (a + 1))] [] (hn_u I2 206 (8 + j) v, J, R) := by
                intro v hv
                refine ih _ (fun b hb => by rw [hn_u_ne _ _ _ hb]; exact g0 b hb) (fun j' hj' => ?_) ?_ (fun j' hj' => ?_)
                · rw [hn_u_eq, va_up, if_neg (by omega)]; exact g1 j' hj'
                · rw [hn_u_eq, va_up, if_pos rfl]; exact hv
                · rw [hn_u_eq, va_up, if_neg (by omega)]; exact g3 j' hj'
              refine b_iload rfl rfl ?_
              refine b_aload_n rfl rfl ?_
              refine b_callV rfl rfl hk_M_knots rfl rfl rfl (by first | rfl | assumption) rfl (Nat.le_of_ble_eq_true rfl) (q_M_knots hM hN2) (Nat.le_of_ble_eq_true rfl) (fun r_103 D_103 q_103 => ?_)
              obtain ⟨rfl, rfl⟩ := q_103
              refine b_icmp_ge rfl (fun c_106 => ?_) (fun c_106 => ?_)
              · exact absurd c_106 (nI_ge ha (by omega))
              · refine b_aload_n rfl rfl ?_
                refine b_getR rfl (by first | rfl | assumption) rfl (by assumption) ?_
                refine b_bipush rfl ?_
                refine b_iload rfl rfl ?_
                refine b_iadd rfl ?_
                refine b_dup2_11 rfl rfl rfl ?_
                refine b_iaload rfl (by first | rfl | assumption) (hi_ix (8 + j) (by rw [nI_ad]; rfl) (by omega)) (by omega) ?_
                refine b_aload_n rfl rfl ?_
                refine b_iload rfl rfl ?_
                refine b_callV rfl rfl hk_M_stringsFrom rfl rfl rfl (by first | rfl | assumption) rfl (Nat.le_of_ble_eq_true rfl) (q_M_stringsFrom hB2 (show a < 8 by omega)) (Nat.le_of_ble_eq_true rfl) (fun r_123 D_123 q_123 => ?_)
                obtain ⟨rfl, rfl⟩ := q_123
                refine b_iload rfl rfl ?_
                refine b_ishr rfl ?_
                refine b_iconst rfl ?_
                refine b_iand rfl ?_
                refine b_iconst rfl ?_
                refine b_icmp_ne rfl (fun c_132 => ?_) (fun c_132 => ?_)
                · refine b_iconst rfl ?_
                  rw [g2]
                  refine b_iadd rfl ?_
                  refine b_iastore rfl (by first | rfl | assumption) (hi_ix (8 + j) (by rw [nI_ad]; rfl) (by omega)) (by omega) ?_
                  refine b_iinc rfl rfl (Nat.le_of_ble_eq_true rfl) ?_
                  refine b_goto rfl ?_
                  first | exact b_eq (hst _ (show _ = if sp_bit (qS Q a) j then sp_wto (qS Q) (sp_wk (qS Q) k i) j a + sp_wk (qS Q) k i a else sp_wto (qS Q) (sp_wk (qS Q) k i) j a by rw [if_neg (fun z => c_132 ((hi_bit1 _).mpr z)), Int32.add_zero])) (by rw [@nI_succ a]; rfl) rfl rfl | exact b_eq (hst _ (show _ = if sp_bit (qS Q a) j then sp_wto (qS Q) (sp_wk (qS Q) k i) j a + sp_wk (qS Q) k i a else sp_wto (qS Q) (sp_wk (qS Q) k i) j a by rw [if_pos ((hi_bit1 _).mp c_132), g1 a (by omega)])) (by rw [@nI_succ a]; rfl) rfl rfl
                · refine b_aload_n rfl rfl ?_
                  refine b_getR rfl (by first | rfl | assumption) rfl (by assumption) ?_
                  refine b_iload rfl rfl ?_
                  refine b_iaload rfl (by first | rfl | assumption) (by first | assumption | exact nI_toInt (by omega) | exact hi_l0 | exact hi_l1 | exact hi_l2 | exact hi_l3 | exact hi_l4 | exact hi_l5 | exact hi_l6) (by omega) ?_
                  refine b_goto rfl ?_
                  rw [g2]
                  refine b_iadd rfl ?_
                  refine b_iastore rfl (by first | rfl | assumption) (hi_ix (8 + j) (by rw [nI_ad]; rfl) (by omega)) (by omega) ?_
                  refine b_iinc rfl rfl (Nat.le_of_ble_eq_true rfl) ?_
                  refine b_goto rfl ?_
                  first | exact b_eq (hst _ (show _ = if sp_bit (qS Q a) j then sp_wto (qS Q) (sp_wk (qS Q) k i) j a + sp_wk (qS Q) k i a else sp_wto (qS Q) (sp_wk (qS Q) k i) j a by rw [if_neg (fun z => c_132 ((hi_bit1 _).mpr z)), Int32.add_zero])) (by rw [@nI_succ a]; rfl) rfl rfl | exact b_eq (hst _ (show _ = if sp_bit (qS Q a) j then sp_wto (qS Q) (sp_wk (qS Q) k i) j a + sp_wk (qS Q) k i a else sp_wto (qS Q) (sp_wk (qS Q) k i) j a by rw [if_pos ((hi_bit1 _).mp c_132), g1 a (by omega)])) (by rw [@nI_succ a]; rfl) rfl rfl
          have L79 : ∀ i (I' : Nat → Nat → Int32) (l : Value), (∀ b, b ≠ 206 → I' b = I0 b) → (∀ j, j < 8 → I' 206 j = sp_wk (qS Q) k i j) → (∀ (I2 : Nat → Nat → Int32) (l1 l2 : Value), (∀ b, b ≠ 206 → I2 b = I0 b) → (∀ j, j < 8 → I2 206 j = sp_wk (qS Q) k (i + 1) j) → hn_B 2 hm_M_walks P 70 [.ref 188, .int (nI k), .int (nI o), .int (nI m), .int (nI (i + 1)), l1, l2] [] (I2, J, R)) → hn_B 2 hm_M_walks P 79 [.ref 188, .int (nI k), .int (nI o), .int (nI m), .int (nI i), .int (nI 0), l] [] (I', J, R) := by
            intro i I' l hf h1 go
            refine sp_ind 8 (fun j => ∀ (I2 : Nat → Nat → Int32) (l : Value), (∀ b, b ≠ 206 → I2 b = I0 b) → (∀ j', j' < 8 → I2 206 j' = sp_wk (qS Q) k i j') → (∀ j', j' < j → I2 206 (8 + j') = sp_wk (qS Q) k (i + 1) j') → hn_B 2 hm_M_walks P 79 [.ref 188, .int (nI k), .int (nI o), .int (nI m), .int (nI i), .int (nI j), l] [] (I2, J, R)) ?_ ?_ I' l hf h1 (fun _ h => absurd h (Nat.not_lt_zero _))
            · intro I2 l g0 g1 g2
              refine b_iload rfl rfl ?_
              refine b_bipush rfl ?_
              refine b_icmp_ge rfl (fun c_83 => ?_) (fun c_83 => ?_)
              · refine b_iconst rfl ?_
                refine b_istore rfl (Nat.le_of_ble_eq_true rfl) ?_
                exact b_eq (L163 i I2 _ g0 g2 go) (by rw [nI_0]; rfl) rfl rfl
              · exact absurd hi_88 c_83
            · intro j hj ih I2 l g0 g1 g2
              refine b_iload rfl rfl ?_
              refine b_bipush rfl ?_
              refine b_icmp_ge rfl (fun c_83 => ?_) (fun c_83 => ?_)
              · exact absurd c_83 (hi_ge8 hj)
              · refine b_aload_n rfl rfl ?_
                refine b_getR rfl (by first | rfl | assumption) rfl (by assumption) ?_
                refine b_bipush rfl ?_
                refine b_iload rfl rfl ?_
                refine b_iadd rfl ?_
                refine b_iconst rfl ?_
                refine b_iastore rfl (by first | rfl | assumption) (hi_ix (8 + j) (by rw [nI_ad]; rfl) (by omega)) (by omega) ?_
                refine b_iconst rfl ?_
                refine b_istore rfl (Nat.le_of_ble_eq_true rfl) ?_
                exact b_eq (L100 i j _ hj (fun b hb => by rw [hn_u_ne _ _ _ hb]; exact g0 b hb) (fun j' hj' => by rw [hn_u_eq, va_up, if_neg (by omega)]; exact g1 j' hj') (by rw [hn_u_eq, va_up, if_pos rfl]) (fun j' hj' => by rw [hn_u_eq, va_up, if_neg (by omega)]; exact g2 j' hj') (fun I3 l f0 f1 f2 => ih I3 l f0 f1 f2)) (by rw [nI_0]; rfl) rfl rfl
          have L70 : ∀ (I' : Nat → Nat → Int32) (l1 l2 : Value), (∀ b, b ≠ 206 → I' b = I0 b) → (∀ j, j < 8 → I' 206 j = sp_wk (qS Q) k 0 j) → hn_B 2 hm_M_walks P 70 [.ref 188, .int (nI k), .int (nI o), .int (nI m), .int (nI 0), l1, l2] [] (I', J, R) := by
            refine sp_ind m (fun i => ∀ (I' : Nat → Nat → Int32) (l1 l2 : Value), (∀ b, b ≠ 206 → I' b = I0 b) → (∀ j, j < 8 → I' 206 j = sp_wk (qS Q) k i j) → hn_B 2 hm_M_walks P 70 [.ref 188, .int (nI k), .int (nI o), .int (nI m), .int (nI i), l1, l2] [] (I', J, R)) ?_ ?_
            · intro I' l1 l2 g0 g1
              refine b_iload rfl rfl ?_
              refine b_iload_n rfl rfl ?_
              refine b_icmp_ge rfl (fun c_73 => ?_) (fun c_73 => ?_)
              · refine b_aload_n rfl rfl ?_
                refine b_getR rfl (by first | rfl | assumption) rfl (by assumption) ?_
                refine b_iload_n rfl rfl ?_
                refine b_iaload rfl (by first | rfl | assumption) (by first | assumption | exact nI_toInt (by omega) | exact hi_l0 | exact hi_l1 | exact hi_l2 | exact hi_l3 | exact hi_l4 | exact hi_l5 | exact hi_l6) (by omega) ?_
                rw [g1 o (by omega)]
                exact b_ireturn rfl trivial ((by rw [hPd]; exact ⟨hs_sm_1 hs0 (c := 206) (by omega) (by omega) g0, rfl⟩))
              · exact absurd (nI_le (Nat.le_refl _) (by omega)) c_73
            · intro i hi ih I' l1 l2 g0 g1
              refine b_iload rfl rfl ?_
              refine b_iload_n rfl rfl ?_
              refine b_icmp_ge rfl (fun c_73 => ?_) (fun c_73 => ?_)
              · exact absurd c_73 (nI_ge hi (by omega))
              · refine b_iconst rfl ?_
                refine b_istore rfl (Nat.le_of_ble_eq_true rfl) ?_
                exact b_eq (L79 i I' _ g0 g1 (fun I2 l1 l2 f0 f1 => ih I2 l1 l2 f0 f1)) (by rw [nI_0]; rfl) rfl rfl
          refine b_iconst rfl ?_
          refine b_istore rfl (Nat.le_of_ble_eq_true rfl) ?_
          refine b_eq (sp_ind 8 (fun j => ∀ I' : Nat → Nat → Int32, (∀ b, b ≠ 206 → I' b = I0 b) → (∀ j', j' < j → I' 206 j' = sp_wk (qS Q) k 0 j') → hn_B 2 hm_M_walks P 36 [.ref 188, .int (nI k), .int (nI o), .int (nI m), .int (nI j), .null, .null] [] (I', J, R)) ?_ ?_ I0 (fun _ _ => rfl) (fun _ h => absurd h (Nat.not_lt_zero _))) (by rw [nI_0]; rfl) rfl rfl
          · intro I' g0 g1
            refine b_iload rfl rfl ?_
            refine b_bipush rfl ?_
            refine b_icmp_ge rfl (fun c_40 => ?_) (fun c_40 => ?_)
            · refine b_iconst rfl ?_
              refine b_istore rfl (Nat.le_of_ble_eq_true rfl) ?_
              exact b_eq (L70 I' _ _ g0 g1) (by rw [nI_0]; rfl) rfl rfl
            · exact absurd hi_88 c_40
          · intro j hj ih I' g0 g1
            have hst : ∀ v, v = sp_wk (qS Q) k 0 j → hn_B 2 hm_M_walks P 36 [.ref 188, .int (nI k), .int (nI o), .int (nI m), .int (nI (j + 1)), .null, .null] [] (hn_u I' 206 j v, J, R) := by
              intro v hv
              refine ih _ (fun b hb => by rw [hn_u_ne _ _ _ hb]; exact g0 b hb) (fun j' hj' => ?_)
              rw [hn_u_eq, va_up]
              by_cases e : j' = j
              · rw [if_pos e, e]; exact hv
              · rw [if_neg e]; exact g1 j' (by omega)
            refine b_iload rfl rfl ?_
            refine b_bipush rfl ?_
            refine b_icmp_ge rfl (fun c_40 => ?_) (fun c_40 => ?_)
            · exact absurd c_40 (hi_ge8 hj)
            · refine b_aload_n rfl rfl ?_
              refine b_getR rfl (by first | rfl | assumption) rfl (by assumption) ?_
              refine b_iload rfl rfl ?_
              refine b_iload rfl rfl ?_
              refine b_iload_n rfl rfl ?_
              refine b_icmp_ne rfl (fun c_52 => ?_) (fun c_52 => ?_)
              · refine b_iconst rfl ?_
                refine b_iastore rfl (by first | rfl | assumption) (by first | assumption | exact nI_toInt (by omega) | exact hi_l0 | exact hi_l1 | exact hi_l2 | exact hi_l3 | exact hi_l4 | exact hi_l5 | exact hi_l6) (by omega) ?_
                refine b_iinc rfl rfl (Nat.le_of_ble_eq_true rfl) ?_
                refine b_goto rfl ?_
                first | exact b_eq (hst _ (show _ = if j = k then (1 : Int32) else 0 by rw [if_neg (fun e => c_52 ((hi_nIe (by omega) (by omega)).mpr e))])) (by rw [@nI_succ j]; rfl) rfl rfl | exact b_eq (hst _ (show _ = if j = k then (1 : Int32) else 0 by rw [if_pos ((hi_nIe (by omega) (by omega)).mp c_52)])) (by rw [@nI_succ j]; rfl) rfl rfl
              · refine b_iconst rfl ?_
                refine b_goto rfl ?_
                refine b_iastore rfl (by first | rfl | assumption) (by first | assumption | exact nI_toInt (by omega) | exact hi_l0 | exact hi_l1 | exact hi_l2 | exact hi_l3 | exact hi_l4 | exact hi_l5 | exact hi_l6) (by omega) ?_
                refine b_iinc rfl rfl (Nat.le_of_ble_eq_true rfl) ?_
                refine b_goto rfl ?_
                first | exact b_eq (hst _ (show _ = if j = k then (1 : Int32) else 0 by rw [if_neg (fun e => c_52 ((hi_nIe (by omega) (by omega)).mpr e))])) (by rw [@nI_succ j]; rfl) rfl rfl | exact b_eq (hst _ (show _ = if j = k then (1 : Int32) else 0 by rw [if_pos ((hi_nIe (by omega) (by omega)).mp c_52)])) (by rw [@nI_succ j]; rfl) rfl rfl
        refine b_aload_n rfl rfl ?_
        refine b_iconst rfl ?_
        refine b_putI rfl (by first | rfl | assumption) rfl rfl ⟨rfl, rfl⟩ ?_
        have hB1 := hs_B_0 (v := 0) hB
        have hs0 : hs_sm I J R (hn_u I 188 0 0, J, R) := hs_sm_0
        generalize hn_u I 188 0 0 = I0 at hB1 hs0 ⊢
        have hB2 := hB1
        obtain ⟨hR, hN, hQ, hfm, hw, hAw⟩ := hB1
        have hM := hs_M_of hR
        have hN0 := hN
        have hQ0 := hQ
        have hw0 := hw
        obtain ⟨⟨hn, n8, hnp, n4, hkn⟩, hL⟩ := hN
        obtain ⟨⟨_, hVs, hVw, hVp, hVh⟩, hVt⟩ := hQ
        simp only [Nat.zero_add] at hVs hVw hVp hVh
        obtain ⟨m1, m4, m5, m6, m9, m10, m11, m12, m14, m15, m16, m17, m20, m21, m22, m23, m25, m27, m28, m29, m30, m31, m32⟩ := id hM
        refine b_aload_n rfl rfl ?_
        refine b_iload_n rfl rfl ?_
        refine b_callV rfl rfl hk_M_isKnot rfl rfl rfl (by first | rfl | assumption) rfl (Nat.le_of_ble_eq_true rfl) (q_M_isKnot hM hn n8) (Nat.le_of_ble_eq_true rfl) (fun r_7 D_7 q_7 => ?_)
        obtain ⟨rfl, hq⟩ := q_7
        rw [if_pos hx] at hq
        subst hq
        refine b_if_eq rfl (fun c_10 => ?_) (fun c_10 => ?_)
        · exact absurd c_10 (by decide)
        · refine b_aload_n rfl rfl ?_
          refine b_iload_n rfl rfl ?_
          refine b_callV rfl rfl hk_M_isKnot rfl rfl rfl (by first | rfl | assumption) rfl (Nat.le_of_ble_eq_true rfl) (q_M_isKnot hM hn n8) (Nat.le_of_ble_eq_true rfl) (fun r_15 D_15 q_15 => ?_)
          obtain ⟨rfl, hq⟩ := q_15
          rw [if_pos hy] at hq
          subst hq
          refine b_if_eq rfl (fun c_18 => ?_) (fun c_18 => ?_)
          · exact absurd c_18 (by decide)
          · refine b_iload_n rfl rfl ?_
            refine b_iconst rfl ?_
            refine b_bipush rfl ?_
            refine b_callS rfl rfl hk_M_within rfl rfl rfl (Nat.le_of_ble_eq_true rfl) (q_M_within) (Nat.le_of_ble_eq_true rfl) (fun r_25 D_25 q_25 => ?_)
            obtain ⟨rfl, hq⟩ := q_25
            rw [if_pos (show (0 : Int32).toInt ≤ _ ∧ _ ≤ (9 : Int32).toInt from hzz)] at hq
            subst hq
            refine b_if_ne rfl (fun c_28 => ?_) (fun c_28 => ?_)
            · exact b_eq (main _ hB2 hs0) rfl rfl rfl
            · exact absurd c_28 (by decide)
      · rw [if_neg hzz]
        refine b_aload_n rfl rfl ?_
        refine b_iconst rfl ?_
        refine b_putI rfl (by first | rfl | assumption) rfl rfl ⟨rfl, rfl⟩ ?_
        have hB1 := hs_B_0 (v := 0) hB
        have hs0 : hs_sm I J R (hn_u I 188 0 0, J, R) := hs_sm_0
        generalize hn_u I 188 0 0 = I0 at hB1 hs0 ⊢
        have hB2 := hB1
        obtain ⟨hR, hN, hQ, hfm, hw, hAw⟩ := hB1
        have hM := hs_M_of hR
        have hN0 := hN
        have hQ0 := hQ
        have hw0 := hw
        obtain ⟨⟨hn, n8, hnp, n4, hkn⟩, hL⟩ := hN
        obtain ⟨⟨_, hVs, hVw, hVp, hVh⟩, hVt⟩ := hQ
        simp only [Nat.zero_add] at hVs hVw hVp hVh
        obtain ⟨m1, m4, m5, m6, m9, m10, m11, m12, m14, m15, m16, m17, m20, m21, m22, m23, m25, m27, m28, m29, m30, m31, m32⟩ := id hM
        refine b_aload_n rfl rfl ?_
        refine b_iload_n rfl rfl ?_
        refine b_callV rfl rfl hk_M_isKnot rfl rfl rfl (by first | rfl | assumption) rfl (Nat.le_of_ble_eq_true rfl) (q_M_isKnot hM hn n8) (Nat.le_of_ble_eq_true rfl) (fun r_7 D_7 q_7 => ?_)
        obtain ⟨rfl, hq⟩ := q_7
        rw [if_pos hx] at hq
        subst hq
        refine b_if_eq rfl (fun c_10 => ?_) (fun c_10 => ?_)
        · exact absurd c_10 (by decide)
        · refine b_aload_n rfl rfl ?_
          refine b_iload_n rfl rfl ?_
          refine b_callV rfl rfl hk_M_isKnot rfl rfl rfl (by first | rfl | assumption) rfl (Nat.le_of_ble_eq_true rfl) (q_M_isKnot hM hn n8) (Nat.le_of_ble_eq_true rfl) (fun r_15 D_15 q_15 => ?_)
          obtain ⟨rfl, hq⟩ := q_15
          rw [if_pos hy] at hq
          subst hq
          refine b_if_eq rfl (fun c_18 => ?_) (fun c_18 => ?_)
          · exact absurd c_18 (by decide)
          · refine b_iload_n rfl rfl ?_
            refine b_iconst rfl ?_
            refine b_bipush rfl ?_
            refine b_callS rfl rfl hk_M_within rfl rfl rfl (Nat.le_of_ble_eq_true rfl) (q_M_within) (Nat.le_of_ble_eq_true rfl) (fun r_25 D_25 q_25 => ?_)
            obtain ⟨rfl, hq⟩ := q_25
            rw [if_neg (show ¬ ((0 : Int32).toInt ≤ _ ∧ _ ≤ (9 : Int32).toInt) from hzz)] at hq
            subst hq
            refine b_if_ne rfl (fun c_28 => ?_) (fun c_28 => ?_)
            · exact absurd rfl c_28
            · refine b_iconst rfl ?_
              exact b_ireturn rfl trivial (⟨hs0, rfl⟩)
    · rw [sp_at_out hy]
      refine b_aload_n rfl rfl ?_
      refine b_iconst rfl ?_
      refine b_putI rfl (by first | rfl | assumption) rfl rfl ⟨rfl, rfl⟩ ?_
      have hB1 := hs_B_0 (v := 0) hB
      have hs0 : hs_sm I J R (hn_u I 188 0 0, J, R) := hs_sm_0
      generalize hn_u I 188 0 0 = I0 at hB1 hs0 ⊢
      have hB2 := hB1
      obtain ⟨hR, hN, hQ, hfm, hw, hAw⟩ := hB1
      have hM := hs_M_of hR
      have hN0 := hN
      have hQ0 := hQ
      have hw0 := hw
      obtain ⟨⟨hn, n8, hnp, n4, hkn⟩, hL⟩ := hN
      obtain ⟨⟨_, hVs, hVw, hVp, hVh⟩, hVt⟩ := hQ
      simp only [Nat.zero_add] at hVs hVw hVp hVh
      obtain ⟨m1, m4, m5, m6, m9, m10, m11, m12, m14, m15, m16, m17, m20, m21, m22, m23, m25, m27, m28, m29, m30, m31, m32⟩ := id hM
      refine b_aload_n rfl rfl ?_
      refine b_iload_n rfl rfl ?_
      refine b_callV rfl rfl hk_M_isKnot rfl rfl rfl (by first | rfl | assumption) rfl (Nat.le_of_ble_eq_true rfl) (q_M_isKnot hM hn n8) (Nat.le_of_ble_eq_true rfl) (fun r_7 D_7 q_7 => ?_)
      obtain ⟨rfl, hq⟩ := q_7
      rw [if_pos hx] at hq
      subst hq
      refine b_if_eq rfl (fun c_10 => ?_) (fun c_10 => ?_)
      · exact absurd c_10 (by decide)
      · refine b_aload_n rfl rfl ?_
        refine b_iload_n rfl rfl ?_
        refine b_callV rfl rfl hk_M_isKnot rfl rfl rfl (by first | rfl | assumption) rfl (Nat.le_of_ble_eq_true rfl) (q_M_isKnot hM hn n8) (Nat.le_of_ble_eq_true rfl) (fun r_15 D_15 q_15 => ?_)
        obtain ⟨rfl, hq⟩ := q_15
        rw [if_neg hy] at hq
        subst hq
        refine b_if_eq rfl (fun c_18 => ?_) (fun c_18 => ?_)
        · refine b_iconst rfl ?_
          exact b_ireturn rfl trivial (⟨hs0, rfl⟩)
        · exact absurd rfl c_18
  · rw [v_walks, sp_at_out hx]
    refine b_aload_n rfl rfl ?_
    refine b_iconst rfl ?_
    refine b_putI rfl (by first | rfl | assumption) rfl rfl ⟨rfl, rfl⟩ ?_
    have hB1 := hs_B_0 (v := 0) hB
    have hs0 : hs_sm I J R (hn_u I 188 0 0, J, R) := hs_sm_0
    generalize hn_u I 188 0 0 = I0 at hB1 hs0 ⊢
    have hB2 := hB1
    obtain ⟨hR, hN, hQ, hfm, hw, hAw⟩ := hB1
    have hM := hs_M_of hR
    have hN0 := hN
    have hQ0 := hQ
    have hw0 := hw
    obtain ⟨⟨hn, n8, hnp, n4, hkn⟩, hL⟩ := hN
    obtain ⟨⟨_, hVs, hVw, hVp, hVh⟩, hVt⟩ := hQ
    simp only [Nat.zero_add] at hVs hVw hVp hVh
    obtain ⟨m1, m4, m5, m6, m9, m10, m11, m12, m14, m15, m16, m17, m20, m21, m22, m23, m25, m27, m28, m29, m30, m31, m32⟩ := id hM
    refine b_aload_n rfl rfl ?_
    refine b_iload_n rfl rfl ?_
    refine b_callV rfl rfl hk_M_isKnot rfl rfl rfl (by first | rfl | assumption) rfl (Nat.le_of_ble_eq_true rfl) (q_M_isKnot hM hn n8) (Nat.le_of_ble_eq_true rfl) (fun r_7 D_7 q_7 => ?_)
    obtain ⟨rfl, hq⟩ := q_7
    rw [if_neg hx] at hq
    subst hq
    refine b_if_eq rfl (fun c_10 => ?_) (fun c_10 => ?_)
    · refine b_iconst rfl ?_
      exact b_ireturn rfl trivial (⟨hs0, rfl⟩)
    · exact absurd rfl c_10
end HNmwalks
