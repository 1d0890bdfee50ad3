section HNmheld
variable {I I' : Nat → Nat → Int32} {J J' : Nat → Nat → Int64} {R : Nat → Nat → Option Nat} {t : Nat} {N : sp_N} {Q Q' S : sp_Q} {U : sp_U} {V : sp_V}
/-- what the reference may change while it holds some slips for firm -/
def hs_sf (I : Nat → Nat → Int32) (fm : Int32) (I' : Nat → Nat → Int32) : Prop := (∀ b, ¬ hs_ms b → I' b = I b) ∧ (∀ j, 0 < j → j ≠ 26 → I' 188 j = I 188 j) ∧ I' 188 26 = fm ∧ ∀ j, j < 987 → I' 204 j = I 204 j
theorem sf_N {fm : Int32} (hB : hs_B I R N Q) (h : hs_sf I fm I') : hs_Nm I' N ∧ hs_Qm I' 0 Q := by
  refine ⟨?_, hs_Qm_fr hB.2.2.1 (by omega) (fun j hj => h.2.2.2 _ (by omega))⟩
  unfold hs_Nm hs_MN hs_ML
  rw [h.1 194 (by unfold hs_ms; omega), h.1 195 (by unfold hs_ms; omega), h.1 196 (by unfold hs_ms; omega)]
  exact hB.2.1
theorem sf_u {fm : Int32} {I2 : Nat → Nat → Int32} (h : hs_sf I fm I') (hf : ∀ b, ¬ (b = 202 ∨ b = 203 ∨ b = 204) → I2 b = I' b) (h4 : ∀ j, j < 987 → I2 204 j = I' 204 j) : hs_sf I fm I2 :=
  ⟨fun b hb => by rw [hf b (fun e => hb (by unfold hs_ms; omega))]; exact h.1 b hb, fun j h1 h2 => by rw [hf 188 (by omega)]; exact h.2.1 j h1 h2, by rw [hf 188 (by omega)]; exact h.2.2.1, fun j hj => (h4 j hj).trans (h.2.2.2 j hj)⟩
theorem sf_fm {fm v : Int32} (h : hs_sf I fm I') : hs_sf I v (hn_u I' 188 26 v) :=
  ⟨fun b hb => by rw [hn_u_ne _ _ _ (fun e => hb (Or.inl e))]; exact h.1 b hb, fun j h1 h2 => by rw [hn_u_eq, va_up, if_neg h2]; exact h.2.1 j h1 h2, by rw [hn_u_eq, va_up, if_pos rfl], fun j hj => by rw [hn_u_ne _ _ _ (by omega)]; exact h.2.2.2 j hj⟩
theorem q_M_doesNobodyFall {fm : Int32} (hB : hs_B I R N Q) (hs : hs_sf I fm I') : hn_F 5 hm_M_doesNobodyFall [.ref 188] (I', J, R) (fun r D' => (∃ I2, D' = (I2, J, R) ∧ hs_sf I fm I2) ∧ ((kp N Q fm ∧ r = some (.int 1)) ∨ (¬ kp N Q fm ∧ r = some (.int 0)))) := by
  have hM9 := hs_M_of hB.1
  have n8 : N.1 ≤ 8 := hB.2.1.1.2.1
  have n4 : N.2.1 ≤ 4 := hB.2.1.1.2.2.2.1
  have hw9 := hB.2.2.2.2.1
  have hqw := hq_w (fm := fm) n4 hw9
  obtain ⟨hN1, hQ1⟩ := sf_N hB hs
  refine hn_F_of _ hk_M_doesNobodyFall rfl (Nat.le_of_ble_eq_true rfl) ?_
  obtain ⟨P, hPd⟩ : ∃ P : Option Value → hnD → Prop, P = (fun r D' => (∃ I2, D' = (I2, J, R) ∧ hs_sf I fm I2) ∧ ((kp N Q fm ∧ r = some (.int 1)) ∨ (¬ kp N Q fm ∧ r = some (.int 0)))) := ⟨_, rfl⟩
  rw [← hPd]
  have htc : hn_F 1 hm_M_triesNow [.ref 188] (I', J, R) (fun r D' => r = none ∧ ∃ I2, D' = (I2, J, R) ∧ hs_sf I fm I2 ∧ hs_Qm I2 987 Q) := by
    refine hn_F_of _ hk_M_triesNow rfl (Nat.le_of_ble_eq_true rfl) ?_
    refine b_aload_n rfl rfl ?_
    refine b_iconst rfl ?_
    refine b_sipush rfl ?_
    refine b_bipush rfl ?_
    refine b_callV rfl rfl hk_M_copies rfl rfl rfl (by first | rfl | assumption) rfl (Nat.le_of_ble_eq_true rfl) (q_M_copies (f := 0) (t := 987) (m := 21) hM9 (by omega) (by omega) (by omega) rfl rfl rfl) (Nat.le_of_ble_eq_true rfl) (fun r_7 D_7 q_7 => ?_)
    obtain ⟨rfl, hf, h204⟩ := q_7
    obtain ⟨I2, rfl, hI2⟩ := hf.out
    replace h204 : I2 204 = va_cpy (I' 204) (I' 204) 0 987 21 := h204
    exact b_return_ rfl trivial (⟨rfl, I2, rfl, sf_u hs (fun b hb => hI2 b (fun e => hb (by omega))) (fun j hj => by rw [h204, cp_off (by omega)]), hs_Qm_fr hQ1 (by omega) (fun j hj => by rw [h204]; exact cp_at hj)⟩)
  have fin : ∀ I2, hs_sf I fm I2 → ¬ kp N Q fm → ∀ x : Int32, hn_B 5 hm_M_doesNobodyFall P 8 [.ref 188, .int 0, .int x] [] (I2, J, R) := by
    intro I2 h2 hno x
    refine b_iload_n rfl rfl ?_
    refine b_bipush rfl ?_
    refine b_icmp_ge rfl (fun c_11 => ?_) (fun c_11 => ?_)
    · refine b_iload_n rfl rfl ?_
      exact b_ireturn rfl (by first | exact Or.inl rfl | exact Or.inr rfl | exact trivial) ((by rw [hPd]; exact ⟨⟨I2, rfl, h2⟩, Or.inr ⟨hno, rfl⟩⟩))
    · refine b_iload_n rfl rfl ?_
      refine b_if_eq rfl (fun c_15 => ?_) (fun c_15 => ?_)
      · refine b_iload_n rfl rfl ?_
        exact b_ireturn rfl (by first | exact Or.inl rfl | exact Or.inr rfl | exact trivial) ((by rw [hPd]; exact ⟨⟨I2, rfl, h2⟩, Or.inr ⟨hno, rfl⟩⟩))
      · exact absurd rfl c_15
  have lp : (∀ i, i < 0 → nf N Q fm i) → ∀ I2, hs_sf I fm I2 → hs_Qm I2 987 (hq N Q fm 0) → hn_B 5 hm_M_doesNobodyFall P 8 [.ref 188, .int 1, .int (nI 0)] [] (I2, J, R) := by
    refine sp_ind 60 (fun k => (∀ i, i < k → nf N Q fm i) → ∀ I2, hs_sf I fm I2 → hs_Qm I2 987 (hq N Q fm k) → hn_B 5 hm_M_doesNobodyFall P 8 [.ref 188, .int 1, .int (nI k)] [] (I2, J, R)) ?_ ?_
    · intro hall I2 h2 g2
      refine b_iload_n rfl rfl ?_
      refine b_bipush rfl ?_
      refine b_icmp_ge rfl (fun c_11 => ?_) (fun c_11 => ?_)
      · refine b_iload_n rfl rfl ?_
        exact b_ireturn rfl (by first | exact Or.inl rfl | exact Or.inr rfl | exact trivial) ((by rw [hPd]; exact ⟨⟨I2, rfl, h2⟩, Or.inl ⟨hall, rfl⟩⟩))
      · exact absurd (show (60 : Int32) ≤ nI 60 by decide) c_11
    · intro k hk ih hall I2 h2 g2
      have c11 : ¬ (60 : Int32) ≤ nI k := fun z => nI_ge (b := 60) hk (by omega) z
      obtain ⟨hN2, _⟩ := sf_N hB h2
      have hcall := qm_hour (J := J) (odd := -1) hM9 hN2 g2 h2.2.2.1 (hqw k).1 (hqw k).2.2.2.1 rfl
      by_cases hn : nf N Q fm k
      · refine b_iload_n rfl rfl ?_
        refine b_bipush rfl ?_
        refine b_icmp_ge rfl (fun c_11 => ?_) (fun c_11 => ?_)
        · exact absurd c_11 c11
        · refine b_iload_n rfl rfl ?_
          refine b_if_eq rfl (fun c_15 => ?_) (fun c_15 => ?_)
          · exact absurd c_15 (by decide)
          · refine b_aload_n rfl rfl ?_
            refine b_sipush rfl ?_
            refine b_iconst rfl ?_
            refine b_callV rfl rfl hk_M_passes rfl rfl rfl (by first | rfl | assumption) rfl (Nat.le_of_ble_eq_true rfl) (hcall) (Nat.le_of_ble_eq_true rfl) (fun r_23 D_23 q_23 => ?_)
            obtain ⟨hf, g1, g3, hq9⟩ := q_23
            obtain ⟨I3, rfl, hI3⟩ := hf.out
            rw [hn] at hq9
            subst hq9
            refine b_if_ne rfl (fun c_26 => ?_) (fun c_26 => ?_)
            · exact absurd rfl c_26
            · refine b_iconst rfl ?_
              refine b_goto rfl ?_
              refine b_istore_n rfl (Nat.le_of_ble_eq_true rfl) ?_
              refine b_iinc rfl rfl (Nat.le_of_ble_eq_true rfl) ?_
              refine b_goto rfl ?_
              exact b_lp (ih (fun i hi => by by_cases e : i = k; exact e ▸ hn; exact hall i (by omega)) I3 (sf_u h2 hI3 (fun j hj => g1 j (by omega))) g3) (le_e (le_e (le_q (by rw [nI_succ]) le_0))) rfl rfl
      · have hno : ¬ kp N Q fm := fun z => hn (z k hk)
        refine b_iload_n rfl rfl ?_
        refine b_bipush rfl ?_
        refine b_icmp_ge rfl (fun c_11 => ?_) (fun c_11 => ?_)
        · exact absurd c_11 c11
        · refine b_iload_n rfl rfl ?_
          refine b_if_eq rfl (fun c_15 => ?_) (fun c_15 => ?_)
          · exact absurd c_15 (by decide)
          · refine b_aload_n rfl rfl ?_
            refine b_sipush rfl ?_
            refine b_iconst rfl ?_
            refine b_callV rfl rfl hk_M_passes rfl rfl rfl (by first | rfl | assumption) rfl (Nat.le_of_ble_eq_true rfl) (hcall) (Nat.le_of_ble_eq_true rfl) (fun r_23 D_23 q_23 => ?_)
            obtain ⟨hf, g1, g3, rfl⟩ := q_23
            obtain ⟨I3, rfl, hI3⟩ := hf.out
            have h3 := sf_u h2 hI3 (fun j hj => g1 j (by omega))
            refine b_if_ne rfl (fun c_26 => ?_) (fun c_26 => ?_)
            · refine b_iconst rfl ?_
              refine b_istore_n rfl (Nat.le_of_ble_eq_true rfl) ?_
              refine b_iinc rfl rfl (Nat.le_of_ble_eq_true rfl) ?_
              refine b_goto rfl ?_
              exact b_lp (fin I3 h3 hno (nI k + 1)) (le_e (le_e (le_e le_0))) rfl rfl
            · exact absurd c_26 hn
  refine b_aload_n rfl rfl ?_
  refine b_callV rfl rfl hk_M_triesNow rfl rfl rfl (by first | rfl | assumption) rfl (Nat.le_of_ble_eq_true rfl) (htc) (Nat.le_of_ble_eq_true rfl) (fun r_1 D_1 q_1 => ?_)
  obtain ⟨rfl, I2, rfl, h2, g2⟩ := q_1
  refine b_iconst rfl ?_
  refine b_istore_n rfl (Nat.le_of_ble_eq_true rfl) ?_
  refine b_iconst rfl ?_
  refine b_istore_n rfl (Nat.le_of_ble_eq_true rfl) ?_
  exact b_lp (lp (fun i hi => absurd hi (by omega)) I2 h2 g2) (le_e (le_e (le_q (by rw [nI_0]) le_0))) rfl rfl
theorem q_M_held (hB : hs_B I R N Q) : hn_F 6 hm_M_held [.ref 188] (I, J, R) (fun r D' => hs_sm I J R D' ∧ r = some (.int (v_held N Q))) := by
  have hM9 := hs_M_of hB.1
  have n8 : N.1 ≤ 8 := hB.2.1.1.2.1
  have hpw := (pw8 n8).2
  refine hn_F_of _ hk_M_held rfl (Nat.le_of_ble_eq_true rfl) ?_
  obtain ⟨P, hPd⟩ : ∃ P : Option Value → hnD → Prop, P = (fun r D' => hs_sm I J R D' ∧ r = some (.int (v_held N Q))) := ⟨_, rfl⟩
  rw [← hPd]
  have lp : ∀ I' fm, hs_sf I fm I' → hn_B 6 hm_M_held P 47 [.ref 188, .int (sp_slips (nK N) N.1), .int (sp_enc (hb N Q 0)), .int (nI 0), .null] [] (I', J, R) := by
    refine sp_ind (2 ^ N.1) (fun s => ∀ I' fm, hs_sf I fm I' → hn_B 6 hm_M_held P 47 [.ref 188, .int (sp_slips (nK N) N.1), .int (sp_enc (hb N Q s)), .int (nI s), .null] [] (I', J, R)) ?_ ?_
    · intro I' fm h
      have hn' := (sf_N hB h).1.1.1
      have h0 := sf_fm (v := 0) h
      refine b_iload_n rfl rfl ?_
      refine b_iconst rfl ?_
      refine b_aload_n rfl rfl ?_
      refine b_callV rfl rfl hk_M_knots rfl rfl rfl (by first | rfl | assumption) rfl (Nat.le_of_ble_eq_true rfl) (q_M_knots hM9 hn') (Nat.le_of_ble_eq_true rfl) (fun r_50 D_50 q_50 => ?_)
      obtain ⟨rfl, rfl⟩ := q_50
      refine b_ishl rfl ?_
      rw [nI_shl (by omega)]
      refine b_icmp_ge rfl (fun c_54 => ?_) (fun c_54 => ?_)
      · refine b_aload_n rfl rfl ?_
        refine b_iconst rfl ?_
        refine b_putI rfl (by first | rfl | assumption) rfl rfl ⟨rfl, rfl⟩ ?_
        refine b_iload_n rfl rfl ?_
        exact b_ireturn rfl trivial ((by rw [hPd]; exact ⟨⟨rfl, h0.1, fun j hj => by by_cases e : j = 26; exact e ▸ (h0.2.2.1.trans hB.2.2.2.1.symm); exact h0.2.1 j hj e, h0.2.2.2, fun _ _ => rfl⟩, rfl⟩))
      · exact absurd (nI_le (Nat.le_refl _) (by omega)) c_54
    · intro s hs ih I' fm h
      rw [hb_s] at ih
      have hn' := (sf_N hB h).1.1.1
      have h9 := sf_fm (v := nI s) h
      obtain ⟨I1, hI1⟩ : ∃ z, z = hn_u I' 188 26 (nI s) := ⟨_, rfl⟩
      rw [← hI1] at h9
      obtain ⟨ps1, ps2⟩ := pn_of (s := s) (by omega)
      have keepB : ¬ (gd N Q s ∧ ∀ c, hb N Q s = some c → pn s < pn c) → ∀ I2, hs_sf I (nI s) I2 → hn_B 6 hm_M_held P 47 [.ref 188, .int (sp_slips (nK N) N.1), .int (sp_enc (hb N Q s)), .int (nI s + 1), .null] [] (I2, J, R) := fun hno I2 h2 => by
        have ih := ih I2 _ h2
        rw [if_neg hno] at ih
        exact b_lp ih (le_e (le_e (le_e (le_q (by rw [nI_succ]) (le_n le_0))))) rfl rfl
      have S90 : ∀ m : Int32, fg (nI s &&& (sp_slips (nK N) N.1 ^^^ -1) = 0 ∧ ∀ c, hb N Q s = some c → pn s < pn c) m → hn_B 6 hm_M_held P 90 [.ref 188, .int (sp_slips (nK N) N.1), .int (sp_enc (hb N Q s)), .int (nI s), .null] [.int m] (I1, J, R) := by
        intro m hm
        rcases hm with ⟨hy, rfl⟩ | ⟨hy, rfl⟩
        · have hcall := q_M_doesNobodyFall (J := J) hB h9
          by_cases hk : kp N Q (nI s)
          · have hyes : gd N Q s ∧ ∀ c, hb N Q s = some c → pn s < pn c := ⟨⟨hy.1, hk⟩, hy.2⟩
            refine b_istore rfl (Nat.le_of_ble_eq_true rfl) ?_
            refine b_iload rfl rfl ?_
            refine b_if_eq rfl (fun c_94 => ?_) (fun c_94 => ?_)
            · exact absurd c_94 (by decide)
            · refine b_aload_n rfl rfl ?_
              refine b_callV rfl rfl hk_M_doesNobodyFall rfl rfl rfl (by first | rfl | assumption) rfl (Nat.le_of_ble_eq_true rfl) (hcall) (Nat.le_of_ble_eq_true rfl) (fun r_98 D_98 q_98 => ?_)
              obtain ⟨⟨I2, rfl, h2⟩, hq9⟩ := q_98
              have hq9 := (hq9.resolve_right (fun z => z.1 hk)).2
              subst hq9
              have ih := ih I2 _ h2
              rw [if_pos hyes] at ih
              refine b_if_eq rfl (fun c_101 => ?_) (fun c_101 => ?_)
              · exact absurd c_101 (by decide)
              · refine b_iload_n rfl rfl ?_
                refine b_goto rfl ?_
                refine b_istore_n rfl (Nat.le_of_ble_eq_true rfl) ?_
                refine b_iinc rfl rfl (Nat.le_of_ble_eq_true rfl) ?_
                refine b_goto rfl ?_
                exact b_lp ih (le_e (le_e (le_e (le_q (by rw [nI_succ]) (le_n le_0))))) rfl rfl
          · refine b_istore rfl (Nat.le_of_ble_eq_true rfl) ?_
            refine b_iload rfl rfl ?_
            refine b_if_eq rfl (fun c_94 => ?_) (fun c_94 => ?_)
            · exact absurd c_94 (by decide)
            · refine b_aload_n rfl rfl ?_
              refine b_callV rfl rfl hk_M_doesNobodyFall rfl rfl rfl (by first | rfl | assumption) rfl (Nat.le_of_ble_eq_true rfl) (hcall) (Nat.le_of_ble_eq_true rfl) (fun r_98 D_98 q_98 => ?_)
              obtain ⟨⟨I2, rfl, h2⟩, hq9⟩ := q_98
              have hq9 := (hq9.resolve_left (fun z => hk z.1)).2
              subst hq9
              refine b_if_eq rfl (fun c_101 => ?_) (fun c_101 => ?_)
              · refine b_iload_n rfl rfl ?_
                refine b_istore_n rfl (Nat.le_of_ble_eq_true rfl) ?_
                refine b_iinc rfl rfl (Nat.le_of_ble_eq_true rfl) ?_
                refine b_goto rfl ?_
                exact b_lp (keepB (fun z => hk z.1.2) I2 h2) (le_e (le_e (le_e (le_e (le_n le_0))))) rfl rfl
              · exact absurd rfl c_101
        · refine b_istore rfl (Nat.le_of_ble_eq_true rfl) ?_
          refine b_iload rfl rfl ?_
          refine b_if_eq rfl (fun c_94 => ?_) (fun c_94 => ?_)
          · refine b_iload_n rfl rfl ?_
            refine b_istore_n rfl (Nat.le_of_ble_eq_true rfl) ?_
            refine b_iinc rfl rfl (Nat.le_of_ble_eq_true rfl) ?_
            refine b_goto rfl ?_
            exact b_lp (keepB (fun z => hy ⟨z.1.1, z.2⟩) I1 h9) (le_e (le_e (le_e (le_e (le_n le_0))))) rfl rfl
          · exact absurd rfl c_94
      by_cases h1 : nI s &&& (sp_slips (nK N) N.1 ^^^ -1) = 0
      · rcases hb_is (N := N) (Q := Q) s with ⟨e1, e2⟩ | ⟨c, e1, e2, e3, e4⟩
        · rw [e1] at S90 keepB ⊢
          refine b_iload_n rfl rfl ?_
          refine b_iconst rfl ?_
          refine b_aload_n rfl rfl ?_
          refine b_callV rfl rfl hk_M_knots rfl rfl rfl (by first | rfl | assumption) rfl (Nat.le_of_ble_eq_true rfl) (q_M_knots hM9 hn') (Nat.le_of_ble_eq_true rfl) (fun r_50 D_50 q_50 => ?_)
          obtain ⟨rfl, rfl⟩ := q_50
          refine b_ishl rfl ?_
          rw [nI_shl (by omega)]
          refine b_icmp_ge rfl (fun c_54 => ?_) (fun c_54 => ?_)
          · exact absurd c_54 (nI_ge hs (by omega))
          · refine b_aload_n rfl rfl ?_
            refine b_iload_n rfl rfl ?_
            refine b_putI rfl (by first | rfl | assumption) rfl rfl ⟨rfl, rfl⟩ ?_
            rw [← hI1]
            refine b_iload_n rfl rfl ?_
            refine b_iload_n rfl rfl ?_
            refine b_iconst rfl ?_
            refine b_ixor rfl ?_
            refine b_iand rfl ?_
            refine b_if_ne rfl (fun c_67 => ?_) (fun c_67 => ?_)
            · exact absurd h1 c_67
            · refine b_iload_n rfl rfl ?_
              refine b_if_lt rfl (fun c_71 => ?_) (fun c_71 => ?_)
              · refine b_iconst rfl ?_
                refine b_goto rfl ?_
                exact b_lp (S90 1 (Or.inl ⟨⟨h1, fun c hc => by cases hc⟩, rfl⟩)) (le_e (le_e (le_e (le_e (le_n le_0))))) rfl rfl
              · exact absurd (show sp_enc none < 0 by decide) c_71
        · obtain ⟨pc1, pc2⟩ := pn_of (s := c) (by omega)
          rw [e1] at S90 keepB ⊢
          have hcn : ¬ sp_enc (some c) < 0 := fun z => by
            have := (hi_lt (nI_toInt (n := c) (by omega)) hi_t0).mp z
            omega
          have hall : (∀ d, (some c : Option Nat) = some d → pn s < pn d) ↔ pn s < pn c := ⟨fun h => h c rfl, fun h d hd => by cases hd; exact h⟩
          by_cases hlt : pn s < pn c
          · refine b_iload_n rfl rfl ?_
            refine b_iconst rfl ?_
            refine b_aload_n rfl rfl ?_
            refine b_callV rfl rfl hk_M_knots rfl rfl rfl (by first | rfl | assumption) rfl (Nat.le_of_ble_eq_true rfl) (q_M_knots hM9 hn') (Nat.le_of_ble_eq_true rfl) (fun r_50 D_50 q_50 => ?_)
            obtain ⟨rfl, rfl⟩ := q_50
            refine b_ishl rfl ?_
            rw [nI_shl (by omega)]
            refine b_icmp_ge rfl (fun c_54 => ?_) (fun c_54 => ?_)
            · exact absurd c_54 (nI_ge hs (by omega))
            · refine b_aload_n rfl rfl ?_
              refine b_iload_n rfl rfl ?_
              refine b_putI rfl (by first | rfl | assumption) rfl rfl ⟨rfl, rfl⟩ ?_
              rw [← hI1]
              refine b_iload_n rfl rfl ?_
              refine b_iload_n rfl rfl ?_
              refine b_iconst rfl ?_
              refine b_ixor rfl ?_
              refine b_iand rfl ?_
              refine b_if_ne rfl (fun c_67 => ?_) (fun c_67 => ?_)
              · exact absurd h1 c_67
              · refine b_iload_n rfl rfl ?_
                refine b_if_lt rfl (fun c_71 => ?_) (fun c_71 => ?_)
                · exact absurd c_71 hcn
                · refine b_iload_n rfl rfl ?_
                  refine b_callS rfl rfl hk_M_bits rfl rfl rfl (Nat.le_of_ble_eq_true rfl) (q_M_bits) (Nat.le_of_ble_eq_true rfl) (fun r_75 D_75 q_75 => ?_)
                  obtain ⟨rfl, rfl⟩ := q_75
                  rw [ps1]
                  refine b_iload_n rfl rfl ?_
                  refine b_callS rfl rfl hk_M_bits rfl rfl rfl (Nat.le_of_ble_eq_true rfl) (q_M_bits) (Nat.le_of_ble_eq_true rfl) (fun r_79 D_79 q_79 => ?_)
                  obtain ⟨rfl, rfl⟩ := q_79
                  rw [show sp_pop (sp_enc (some c)) = nI (pn c) from pc1]
                  refine b_icmp_ge rfl (fun c_82 => ?_) (fun c_82 => ?_)
                  · exact absurd c_82 (nI_ge hlt (by omega))
                  · refine b_iconst rfl ?_
                    refine b_goto rfl ?_
                    exact b_lp (S90 1 (Or.inl ⟨⟨h1, hall.mpr hlt⟩, rfl⟩)) (le_e (le_e (le_e (le_e (le_n le_0))))) rfl rfl
          · refine b_iload_n rfl rfl ?_
            refine b_iconst rfl ?_
            refine b_aload_n rfl rfl ?_
            refine b_callV rfl rfl hk_M_knots rfl rfl rfl (by first | rfl | assumption) rfl (Nat.le_of_ble_eq_true rfl) (q_M_knots hM9 hn') (Nat.le_of_ble_eq_true rfl) (fun r_50 D_50 q_50 => ?_)
            obtain ⟨rfl, rfl⟩ := q_50
            refine b_ishl rfl ?_
            rw [nI_shl (by omega)]
            refine b_icmp_ge rfl (fun c_54 => ?_) (fun c_54 => ?_)
            · exact absurd c_54 (nI_ge hs (by omega))
            · refine b_aload_n rfl rfl ?_
              refine b_iload_n rfl rfl ?_
              refine b_putI rfl (by first | rfl | assumption) rfl rfl ⟨rfl, rfl⟩ ?_
              rw [← hI1]
              refine b_iload_n rfl rfl ?_
              refine b_iload_n rfl rfl ?_
              refine b_iconst rfl ?_
              refine b_ixor rfl ?_
              refine b_iand rfl ?_
              refine b_if_ne rfl (fun c_67 => ?_) (fun c_67 => ?_)
              · exact absurd h1 c_67
              · refine b_iload_n rfl rfl ?_
                refine b_if_lt rfl (fun c_71 => ?_) (fun c_71 => ?_)
                · exact absurd c_71 hcn
                · refine b_iload_n rfl rfl ?_
                  refine b_callS rfl rfl hk_M_bits rfl rfl rfl (Nat.le_of_ble_eq_true rfl) (q_M_bits) (Nat.le_of_ble_eq_true rfl) (fun r_75 D_75 q_75 => ?_)
                  obtain ⟨rfl, rfl⟩ := q_75
                  rw [ps1]
                  refine b_iload_n rfl rfl ?_
                  refine b_callS rfl rfl hk_M_bits rfl rfl rfl (Nat.le_of_ble_eq_true rfl) (q_M_bits) (Nat.le_of_ble_eq_true rfl) (fun r_79 D_79 q_79 => ?_)
                  obtain ⟨rfl, rfl⟩ := q_79
                  rw [show sp_pop (sp_enc (some c)) = nI (pn c) from pc1]
                  refine b_icmp_ge rfl (fun c_82 => ?_) (fun c_82 => ?_)
                  · refine b_iconst rfl ?_
                    exact b_lp (S90 0 (Or.inr ⟨fun z => hlt (hall.mp z.2), rfl⟩)) (le_e (le_e (le_e (le_e (le_n le_0))))) rfl rfl
                  · exact absurd (nI_le (show pn c ≤ pn s by omega) (by omega)) c_82
      · refine b_iload_n rfl rfl ?_
        refine b_iconst rfl ?_
        refine b_aload_n rfl rfl ?_
        refine b_callV rfl rfl hk_M_knots rfl rfl rfl (by first | rfl | assumption) rfl (Nat.le_of_ble_eq_true rfl) (q_M_knots hM9 hn') (Nat.le_of_ble_eq_true rfl) (fun r_50 D_50 q_50 => ?_)
        obtain ⟨rfl, rfl⟩ := q_50
        refine b_ishl rfl ?_
        rw [nI_shl (by omega)]
        refine b_icmp_ge rfl (fun c_54 => ?_) (fun c_54 => ?_)
        · exact absurd c_54 (nI_ge hs (by omega))
        · refine b_aload_n rfl rfl ?_
          refine b_iload_n rfl rfl ?_
          refine b_putI rfl (by first | rfl | assumption) rfl rfl ⟨rfl, rfl⟩ ?_
          rw [← hI1]
          refine b_iload_n rfl rfl ?_
          refine b_iload_n rfl rfl ?_
          refine b_iconst rfl ?_
          refine b_ixor rfl ?_
          refine b_iand rfl ?_
          refine b_if_ne rfl (fun c_67 => ?_) (fun c_67 => ?_)
          · refine b_iconst rfl ?_
            exact b_lp (S90 0 (Or.inr ⟨fun z => h1 z.1, rfl⟩)) (le_e (le_e (le_e (le_e (le_n le_0))))) rfl rfl
          · exact absurd c_67 h1
  refine b_aload_n rfl rfl ?_
  refine b_iconst rfl ?_
  refine b_putI rfl (by first | rfl | assumption) rfl rfl ⟨rfl, rfl⟩ ?_
  have hsf : hs_sf I 0 (hn_u I 188 0 0) := ⟨fun b hb => hn_u_ne _ _ _ (fun e => hb (Or.inl e)), fun j hj _ => by rw [hn_u_eq, va_up, if_neg (by omega)], by rw [hn_u_eq, va_up, if_neg (by omega)]; exact hB.2.2.2.1, fun j _ => by rw [hn_u_ne _ _ _ (by omega)]⟩
  obtain ⟨hN1, _⟩ := sf_N hB hsf
  have hn1 := hN1.1.1
  have hkd : ∀ k, k < N.1 → hn_u I 188 0 0 194 (5 + 4 * k) = nK N k := fun k hk => (hN1.1.2.2.2.2 k hk).1
  generalize hn_u I 188 0 0 = I1 at hsf hn1 hkd ⊢
  refine b_iconst rfl ?_
  refine b_istore_n rfl (Nat.le_of_ble_eq_true rfl) ?_
  refine b_iconst rfl ?_
  refine b_istore_n rfl (Nat.le_of_ble_eq_true rfl) ?_
  refine b_lp (sp_ind N.1 (fun k => hn_B 6 hm_M_held P 9 [.ref 188, .int (sp_set (fun k => nK N k = 2) k), .int (nI k), .null, .null] [] (I1, J, R)) ?_ ?_) (le_e (le_q (by rfl) (le_q (by rw [nI_0]) (le_n (le_n le_0))))) rfl rfl
  · refine b_iload_n rfl rfl ?_
    refine b_aload_n rfl rfl ?_
    refine b_callV rfl rfl hk_M_knots rfl rfl rfl (by first | rfl | assumption) rfl (Nat.le_of_ble_eq_true rfl) (q_M_knots hM9 hn1) (Nat.le_of_ble_eq_true rfl) (fun r_11 D_11 q_11 => ?_)
    obtain ⟨rfl, rfl⟩ := q_11
    refine b_icmp_ge rfl (fun c_14 => ?_) (fun c_14 => ?_)
    · refine b_iconst rfl ?_
      refine b_istore_n rfl (Nat.le_of_ble_eq_true rfl) ?_
      refine b_iconst rfl ?_
      refine b_istore_n rfl (Nat.le_of_ble_eq_true rfl) ?_
      exact b_lp (lp I1 0 hsf) (le_e (le_q (by rfl) (le_q (by rfl) (le_q (by rfl) (le_n le_0))))) rfl rfl
    · exact absurd (nI_le (Nat.le_refl _) (by omega)) c_14
  · intro k hk ih
    have hs : sp_set (fun k => nK N k = 2) (k + 1) = if nK N k = 2 then sp_set (fun k => nK N k = 2) k ||| ((1 : Int32) <<< (nI k &&& 31)) else sp_set (fun k => nK N k = 2) k := rfl
    rw [hs] at ih
    by_cases h2 : nK N k = 2
    · rw [if_pos h2] at ih
      refine b_iload_n rfl rfl ?_
      refine b_aload_n rfl rfl ?_
      refine b_callV rfl rfl hk_M_knots rfl rfl rfl (by first | rfl | assumption) rfl (Nat.le_of_ble_eq_true rfl) (q_M_knots hM9 hn1) (Nat.le_of_ble_eq_true rfl) (fun r_11 D_11 q_11 => ?_)
      obtain ⟨rfl, rfl⟩ := q_11
      refine b_icmp_ge rfl (fun c_14 => ?_) (fun c_14 => ?_)
      · exact absurd c_14 (nI_ge hk (by omega))
      · refine b_iload_n rfl rfl ?_
        refine b_aload_n rfl rfl ?_
        refine b_iload_n rfl rfl ?_
        refine b_iconst rfl ?_
        refine b_callV rfl rfl hk_M_knotOf rfl rfl rfl (by first | rfl | assumption) rfl (Nat.le_of_ble_eq_true rfl) (q_M_knotOf (w := 0) hM9 (show k < 8 by omega) rfl (by omega)) (Nat.le_of_ble_eq_true rfl) (fun r_21 D_21 q_21 => ?_)
        obtain ⟨rfl, rfl⟩ := q_21
        rw [Nat.add_zero, hkd k hk]
        refine b_iconst rfl ?_
        refine b_icmp_ne rfl (fun c_25 => ?_) (fun c_25 => ?_)
        · exact absurd h2 c_25
        · refine b_iconst rfl ?_
          refine b_iload_n rfl rfl ?_
          refine b_ishl rfl ?_
          refine b_goto rfl ?_
          refine b_ior rfl ?_
          refine b_istore_n rfl (Nat.le_of_ble_eq_true rfl) ?_
          refine b_iinc rfl rfl (Nat.le_of_ble_eq_true rfl) ?_
          refine b_goto rfl ?_
          exact b_lp ih (le_e (le_e (le_q (by rw [nI_succ]) (le_n (le_n le_0))))) rfl rfl
    · rw [if_neg h2] at ih
      refine b_iload_n rfl rfl ?_
      refine b_aload_n rfl rfl ?_
      refine b_callV rfl rfl hk_M_knots rfl rfl rfl (by first | rfl | assumption) rfl (Nat.le_of_ble_eq_true rfl) (q_M_knots hM9 hn1) (Nat.le_of_ble_eq_true rfl) (fun r_11 D_11 q_11 => ?_)
      obtain ⟨rfl, rfl⟩ := q_11
      refine b_icmp_ge rfl (fun c_14 => ?_) (fun c_14 => ?_)
      · exact absurd c_14 (nI_ge hk (by omega))
      · refine b_iload_n rfl rfl ?_
        refine b_aload_n rfl rfl ?_
        refine b_iload_n rfl rfl ?_
        refine b_iconst rfl ?_
        refine b_callV rfl rfl hk_M_knotOf rfl rfl rfl (by first | rfl | assumption) rfl (Nat.le_of_ble_eq_true rfl) (q_M_knotOf (w := 0) hM9 (show k < 8 by omega) rfl (by omega)) (Nat.le_of_ble_eq_true rfl) (fun r_21 D_21 q_21 => ?_)
        obtain ⟨rfl, rfl⟩ := q_21
        rw [Nat.add_zero, hkd k hk]
        refine b_iconst rfl ?_
        refine b_icmp_ne rfl (fun c_25 => ?_) (fun c_25 => ?_)
        · refine b_iconst rfl ?_
          refine b_ior rfl ?_
          refine b_istore_n rfl (Nat.le_of_ble_eq_true rfl) ?_
          refine b_iinc rfl rfl (Nat.le_of_ble_eq_true rfl) ?_
          refine b_goto rfl ?_
          exact b_lp ih (le_e (le_q (by rw [Int32.or_zero]) (le_q (by rw [nI_succ]) (le_n (le_n le_0))))) rfl rfl
        · exact absurd c_25 h2
end HNmheld
