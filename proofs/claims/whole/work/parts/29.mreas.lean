section HNmreas
variable {I : Nat → Nat → Int32} {J : Nat → Nat → Int64} {R : Nat → Nat → Option Nat} {N : sp_N} {Q : sp_Q}
theorem q_M_opposes {m : Int32} (hB : hs_B I R N Q) : hn_F 1 hm_M_opposes [.ref 188, .int m] (I, J, R) (fun r D' => D' = (I, J, R) ∧ r = some (.int (sp_union (nA N) m 8))) := by
  have hB0 := hB
  obtain ⟨hR, hN, hQ, hfm, hw, hAw⟩ := hB
  have hM := hs_M_of hR
  have hN0 := hN
  have hQ0 := hQ
  have hw0 := hw
  obtain ⟨⟨hn, n8, hnp, n4, hkn⟩, hL⟩ := hN
  obtain ⟨⟨_, hVs, hVw, hVp, hVh⟩, hVt⟩ := hQ
  simp only [Nat.zero_add] at hVs hVw hVp hVh
  obtain ⟨m1, m4, m5, m6, m9, m10, m11, m12, m14, m15, m16, m17, m20, m21, m22, m23, m25, m27, m28, m29, m30, m31, m32⟩ := id hM
  rw [sp_union_8 hAw.2 n8]
  refine hn_F_of _ hk_M_opposes rfl (Nat.le_of_ble_eq_true rfl) ?_
  refine b_iconst rfl ?_
  refine b_istore_n rfl (Nat.le_of_ble_eq_true rfl) ?_
  refine b_iconst rfl ?_
  refine b_istore_n rfl (Nat.le_of_ble_eq_true rfl) ?_
  refine b_eq (sp_ind N.1 (fun o => hn_B 1 hm_M_opposes (fun r D' => D' = (I, J, R) ∧ r = some (.int (sp_union (nA N) m N.1))) 4 [.ref 188, .int m, .int (sp_union (nA N) m o), .int (nI o)] [] (I, J, R)) ?_ ?_) (by rw [nI_0]; rfl) rfl rfl
  · refine b_iload_n rfl rfl ?_
    refine b_aload_n rfl rfl ?_
    refine b_callV rfl rfl hk_M_knots rfl rfl rfl (by first | rfl | assumption) rfl (Nat.le_of_ble_eq_true rfl) (q_M_knots hM hn) (Nat.le_of_ble_eq_true rfl) (fun r_6 D_6 q_6 => ?_)
    obtain ⟨rfl, rfl⟩ := q_6
    refine b_icmp_ge rfl (fun c_9 => ?_) (fun c_9 => ?_)
    · refine b_iload_n rfl rfl ?_
      exact b_ireturn rfl trivial (⟨rfl, rfl⟩)
    · exact absurd (nI_le (Nat.le_refl _) (by omega)) c_9
  · intro o ho ih
    have e3 : I 194 (5 + 4 * o + 3) = nA N o := by rw [← (hkn o ho).2.2]; congr 1; omega
    refine b_iload_n rfl rfl ?_
    refine b_aload_n rfl rfl ?_
    refine b_callV rfl rfl hk_M_knots rfl rfl rfl (by first | rfl | assumption) rfl (Nat.le_of_ble_eq_true rfl) (q_M_knots hM hn) (Nat.le_of_ble_eq_true rfl) (fun r_6 D_6 q_6 => ?_)
    obtain ⟨rfl, rfl⟩ := q_6
    refine b_icmp_ge rfl (fun c_9 => ?_) (fun c_9 => ?_)
    · exact absurd c_9 (nI_ge ho (by omega))
    · refine b_iload_n rfl rfl ?_
      refine b_iload_n rfl rfl ?_
      refine b_iload_n rfl rfl ?_
      refine b_ishr rfl ?_
      refine b_iconst rfl ?_
      refine b_iand rfl ?_
      refine b_iconst rfl ?_
      refine b_icmp_ne rfl (fun c_19 => ?_) (fun c_19 => ?_)
      · refine b_iconst rfl ?_
        refine b_ior rfl ?_
        refine b_istore_n rfl (Nat.le_of_ble_eq_true rfl) ?_
        refine b_iinc rfl rfl (Nat.le_of_ble_eq_true rfl) ?_
        refine b_goto rfl ?_
        exact b_eq ih (by have h1 := c_19; rw [hi_bit1] at h1; first | (simp only [nI_succ, sp_union, sp_up, if_neg h1, Int32.or_zero]; rfl) | (simp only [nI_succ, sp_union, sp_up, if_pos h1]; rfl)) rfl rfl
      · refine b_aload_n rfl rfl ?_
        refine b_iload_n rfl rfl ?_
        refine b_iconst rfl ?_
        refine b_callV rfl rfl hk_M_knotOf rfl rfl rfl (by first | rfl | assumption) rfl (Nat.le_of_ble_eq_true rfl) (q_M_knotOf (w := 3) hM (show o < 8 by omega) rfl (by omega)) (Nat.le_of_ble_eq_true rfl) (fun r_25 D_25 q_25 => ?_)
        obtain ⟨rfl, hq⟩ := q_25
        rw [e3] at hq
        subst hq
        refine b_goto rfl ?_
        refine b_ior rfl ?_
        refine b_istore_n rfl (Nat.le_of_ble_eq_true rfl) ?_
        refine b_iinc rfl rfl (Nat.le_of_ble_eq_true rfl) ?_
        refine b_goto rfl ?_
        exact b_eq ih (by have h1 := c_19; rw [hi_bit1] at h1; first | (simp only [nI_succ, sp_union, sp_up, if_neg h1, Int32.or_zero]; rfl) | (simp only [nI_succ, sp_union, sp_up, if_pos h1]; rfl)) rfl rfl
theorem sp_opk_set {ag : Nat → Int32} {n k : Nat} (h : ∀ k, k < n → sp_lt n (ag k)) (hn : n ≤ 8) (hk : k < n) : sp_opk ag n k = sp_set (fun o => sp_bit (ag o) k) n := by
  refine sp_ext (sp_opp_lt ag _ (by omega)) (sp_set_lt _ n n (Nat.le_refl _) (by omega)) (by omega) (fun o ho => ?_)
  rw [sp_opk_bit h (by omega) (by omega) hk, sp_set_bit _ (by omega) n (by omega)]
theorem q_M_opposedTo {k : Nat} (hB : hs_B I R N Q) (hk : k < N.1) : hn_F 1 hm_M_opposedTo [.ref 188, .int (nI k)] (I, J, R) (fun r D' => D' = (I, J, R) ∧ r = some (.int (sp_opk (nA N) N.1 k))) := by
  have hB0 := hB
  obtain ⟨hR, hN, hQ, hfm, hw, hAw⟩ := hB
  have hM := hs_M_of hR
  have hN0 := hN
  have hQ0 := hQ
  have hw0 := hw
  obtain ⟨⟨hn, n8, hnp, n4, hkn⟩, hL⟩ := hN
  obtain ⟨⟨_, hVs, hVw, hVp, hVh⟩, hVt⟩ := hQ
  simp only [Nat.zero_add] at hVs hVw hVp hVh
  obtain ⟨m1, m4, m5, m6, m9, m10, m11, m12, m14, m15, m16, m17, m20, m21, m22, m23, m25, m27, m28, m29, m30, m31, m32⟩ := id hM
  rw [sp_opk_set hAw.1 n8 hk]
  refine hn_F_of _ hk_M_opposedTo rfl (Nat.le_of_ble_eq_true rfl) ?_
  refine b_iconst rfl ?_
  refine b_istore_n rfl (Nat.le_of_ble_eq_true rfl) ?_
  refine b_iconst rfl ?_
  refine b_istore_n rfl (Nat.le_of_ble_eq_true rfl) ?_
  refine b_eq (sp_ind N.1 (fun o => hn_B 1 hm_M_opposedTo (fun r D' => D' = (I, J, R) ∧ r = some (.int (sp_set (fun o => sp_bit (nA N o) k) N.1))) 4 [.ref 188, .int (nI k), .int (sp_set (fun o => sp_bit (nA N o) k) o), .int (nI o)] [] (I, J, R)) ?_ ?_) (by rw [nI_0]; rfl) rfl rfl
  · refine b_iload_n rfl rfl ?_
    refine b_aload_n rfl rfl ?_
    refine b_callV rfl rfl hk_M_knots rfl rfl rfl (by first | rfl | assumption) rfl (Nat.le_of_ble_eq_true rfl) (q_M_knots hM hn) (Nat.le_of_ble_eq_true rfl) (fun r_6 D_6 q_6 => ?_)
    obtain ⟨rfl, rfl⟩ := q_6
    refine b_icmp_ge rfl (fun c_9 => ?_) (fun c_9 => ?_)
    · refine b_iload_n rfl rfl ?_
      exact b_ireturn rfl trivial (⟨rfl, rfl⟩)
    · exact absurd (nI_le (Nat.le_refl _) (by omega)) c_9
  · intro o ho ih
    have e3 : I 194 (5 + 4 * o + 3) = nA N o := by rw [← (hkn o ho).2.2]; congr 1; omega
    refine b_iload_n rfl rfl ?_
    refine b_aload_n rfl rfl ?_
    refine b_callV rfl rfl hk_M_knots rfl rfl rfl (by first | rfl | assumption) rfl (Nat.le_of_ble_eq_true rfl) (q_M_knots hM hn) (Nat.le_of_ble_eq_true rfl) (fun r_6 D_6 q_6 => ?_)
    obtain ⟨rfl, rfl⟩ := q_6
    refine b_icmp_ge rfl (fun c_9 => ?_) (fun c_9 => ?_)
    · exact absurd c_9 (nI_ge ho (by omega))
    · refine b_iload_n rfl rfl ?_
      refine b_aload_n rfl rfl ?_
      refine b_iload_n rfl rfl ?_
      refine b_iconst rfl ?_
      refine b_callV rfl rfl hk_M_knotOf rfl rfl rfl (by first | rfl | assumption) rfl (Nat.le_of_ble_eq_true rfl) (q_M_knotOf (w := 3) hM (show o < 8 by omega) rfl (by omega)) (Nat.le_of_ble_eq_true rfl) (fun r_16 D_16 q_16 => ?_)
      obtain ⟨rfl, hq⟩ := q_16
      rw [e3] at hq
      subst hq
      refine b_iload_n rfl rfl ?_
      refine b_ishr rfl ?_
      refine b_iconst rfl ?_
      refine b_iand rfl ?_
      refine b_iconst rfl ?_
      refine b_icmp_ne rfl (fun c_24 => ?_) (fun c_24 => ?_)
      · refine b_iconst rfl ?_
        refine b_ior rfl ?_
        refine b_istore_n rfl (Nat.le_of_ble_eq_true rfl) ?_
        refine b_iinc rfl rfl (Nat.le_of_ble_eq_true rfl) ?_
        refine b_goto rfl ?_
        exact b_eq ih (by have h1 := c_24; rw [hi_bit1] at h1; first | (simp only [nI_succ, sp_set, sp_up, if_neg h1, Int32.or_zero]; rfl) | (simp only [nI_succ, sp_set, sp_up, if_pos (Decidable.not_not.mp h1)]; rfl) | (simp only [nI_succ, sp_set, sp_up, if_pos h1]; rfl)) rfl rfl
      · refine b_iconst rfl ?_
        refine b_iload_n rfl rfl ?_
        refine b_ishl rfl ?_
        refine b_goto rfl ?_
        refine b_ior rfl ?_
        refine b_istore_n rfl (Nat.le_of_ble_eq_true rfl) ?_
        refine b_iinc rfl rfl (Nat.le_of_ble_eq_true rfl) ?_
        refine b_goto rfl ?_
        exact b_eq ih (by have h1 := c_24; rw [hi_bit1] at h1; first | (simp only [nI_succ, sp_set, sp_up, if_neg h1, Int32.or_zero]; rfl) | (simp only [nI_succ, sp_set, sp_up, if_pos (Decidable.not_not.mp h1)]; rfl) | (simp only [nI_succ, sp_set, sp_up, if_pos h1]; rfl)) rfl rfl
/-- a set stands, looked at up to k -/
abbrev sp_stk (ag : Nat → Int32) (n : Nat) (m : Int32) (k : Nat) : Prop := sp_union ag m 8 &&& m = 0 ∧ ∀ j, j < k → sp_bit m j → sp_opk ag n j &&& (sp_union ag m 8 ^^^ -1) = 0
theorem q_M_doesStand {m : Int32} (hB : hs_B I R N Q) : hn_F 2 hm_M_doesStand [.ref 188, .int m] (I, J, R) (fun r D' => D' = (I, J, R) ∧ r = some (.int (if sp_stand (nA N) N.1 m then 1 else 0))) := by
  have hB0 := hB
  obtain ⟨hR, hN, hQ, hfm, hw, hAw⟩ := hB
  have hM := hs_M_of hR
  have hN0 := hN
  have hQ0 := hQ
  have hw0 := hw
  obtain ⟨⟨hn, n8, hnp, n4, hkn⟩, hL⟩ := hN
  obtain ⟨⟨_, hVs, hVw, hVp, hVh⟩, hVt⟩ := hQ
  simp only [Nat.zero_add] at hVs hVw hVp hVh
  obtain ⟨m1, m4, m5, m6, m9, m10, m11, m12, m14, m15, m16, m17, m20, m21, m22, m23, m25, m27, m28, m29, m30, m31, m32⟩ := id hM
  have hsp := sp_opp_split (m := m) (u := sp_union (nA N) m 8) hAw.1 (by omega)
  have hst : sp_stand (nA N) N.1 m ↔ sp_stk (nA N) N.1 m N.1 := ⟨fun z => ⟨z.1, hsp.mp z.2⟩, fun z => ⟨z.1, hsp.mpr z.2⟩⟩
  refine hn_F_of _ hk_M_doesStand rfl (Nat.le_of_ble_eq_true rfl) ?_
  obtain ⟨P, hPd⟩ : ∃ P : Option Value → hnD → Prop, P = (fun r D' => D' = (I, J, R) ∧ r = some (.int (if sp_stand (nA N) N.1 m then 1 else 0))) := ⟨_, rfl⟩
  rw [← hPd]
  have loop : ∀ v : Int32, (v = 1 ∧ sp_stk (nA N) N.1 m 0 ∨ v = 0 ∧ ¬ sp_stk (nA N) N.1 m 0) → hn_B 2 hm_M_doesStand P 18 [.ref 188, .int m, .int v, .int (nI 0)] [] (I, J, R) := by
    refine sp_ind N.1 (fun k => ∀ v : Int32, (v = 1 ∧ sp_stk (nA N) N.1 m k ∨ v = 0 ∧ ¬ sp_stk (nA N) N.1 m k) → hn_B 2 hm_M_doesStand P 18 [.ref 188, .int m, .int v, .int (nI k)] [] (I, J, R)) ?_ ?_
    · intro v hv
      refine b_iload_n rfl rfl ?_
      refine b_aload_n rfl rfl ?_
      refine b_callV rfl rfl hk_M_knots rfl rfl rfl (by first | rfl | assumption) rfl (Nat.le_of_ble_eq_true rfl) (q_M_knots hM hn) (Nat.le_of_ble_eq_true rfl) (fun r_20 D_20 q_20 => ?_)
      obtain ⟨rfl, rfl⟩ := q_20
      refine b_icmp_ge rfl (fun c_23 => ?_) (fun c_23 => ?_)
      · refine b_iload_n rfl rfl ?_
        exact b_ireturn rfl (by rcases hv with hv | hv <;> rw [hv.1] <;> first | exact Or.inl rfl | exact Or.inr rfl) ((by rw [hPd]; refine ⟨rfl, ?_⟩; rcases hv with hv | hv <;> rw [hv.1]; rw [if_pos (hst.mpr hv.2)]; rw [if_neg (fun z => hv.2 (hst.mp z))]))
      · exact absurd (nI_le (Nat.le_refl _) (by omega)) c_23
    · intro k hk ih v hv
      have hs1 : sp_stk (nA N) N.1 m (k + 1) ↔ sp_stk (nA N) N.1 m k ∧ (sp_bit m k → sp_opk (nA N) N.1 k &&& (sp_union (nA N) m 8 ^^^ -1) = 0) := by
        constructor
        · intro z
          exact ⟨⟨z.1, fun j hj => z.2 j (by omega)⟩, z.2 k (by omega)⟩
        · intro z
          refine ⟨z.1.1, fun j hj => ?_⟩
          rcases (show j < k ∨ j = k by omega) with h | rfl
          · exact z.1.2 j h
          · exact z.2
      rcases hv with ⟨rfl, hv⟩ | ⟨rfl, hv⟩
      · refine b_iload_n rfl rfl ?_
        refine b_aload_n rfl rfl ?_
        refine b_callV rfl rfl hk_M_knots rfl rfl rfl (by first | rfl | assumption) rfl (Nat.le_of_ble_eq_true rfl) (q_M_knots hM hn) (Nat.le_of_ble_eq_true rfl) (fun r_20 D_20 q_20 => ?_)
        obtain ⟨rfl, rfl⟩ := q_20
        refine b_icmp_ge rfl (fun c_23 => ?_) (fun c_23 => ?_)
        · exact absurd c_23 (nI_ge hk (by omega))
        · refine b_iload_n rfl rfl ?_
          refine b_if_eq rfl (fun c_27 => ?_) (fun c_27 => ?_)
          · exact absurd c_27 (by decide)
          · refine b_iload_n rfl rfl ?_
            refine b_iload_n rfl rfl ?_
            refine b_ishr rfl ?_
            refine b_iconst rfl ?_
            refine b_iand rfl ?_
            refine b_if_eq rfl (fun c_35 => ?_) (fun c_35 => ?_)
            · refine b_iconst rfl ?_
              refine b_goto rfl ?_
              refine b_istore_n rfl (Nat.le_of_ble_eq_true rfl) ?_
              refine b_iinc rfl rfl (Nat.le_of_ble_eq_true rfl) ?_
              refine b_goto rfl ?_
              first | exact b_eq (ih 1 (Or.inl (And.intro rfl (hs1.mpr (And.intro hv (fun z => absurd c_35 z)))))) (by rw [nI_succ]; rfl) rfl rfl | exact b_eq (ih 0 (Or.inr (And.intro rfl (fun z => c_51 ((hs1.mp z).2 c_35))))) (by rw [nI_succ]; rfl) rfl rfl | exact b_eq (ih 1 (Or.inl (And.intro rfl (hs1.mpr (And.intro hv (fun _ => c_51)))))) (by rw [nI_succ]; rfl) rfl rfl
            · refine b_aload_n rfl rfl ?_
              refine b_iload_n rfl rfl ?_
              refine b_callV rfl rfl hk_M_opposedTo rfl rfl rfl (by first | rfl | assumption) rfl (Nat.le_of_ble_eq_true rfl) (q_M_opposedTo hB0 hk) (Nat.le_of_ble_eq_true rfl) (fun r_40 D_40 q_40 => ?_)
              obtain ⟨rfl, rfl⟩ := q_40
              refine b_aload_n rfl rfl ?_
              refine b_iload_n rfl rfl ?_
              refine b_callV rfl rfl hk_M_opposes rfl rfl rfl (by first | rfl | assumption) rfl (Nat.le_of_ble_eq_true rfl) (q_M_opposes hB0) (Nat.le_of_ble_eq_true rfl) (fun r_45 D_45 q_45 => ?_)
              obtain ⟨rfl, rfl⟩ := q_45
              refine b_iconst rfl ?_
              refine b_ixor rfl ?_
              refine b_iand rfl ?_
              refine b_if_ne rfl (fun c_51 => ?_) (fun c_51 => ?_)
              · refine b_iconst rfl ?_
                refine b_istore_n rfl (Nat.le_of_ble_eq_true rfl) ?_
                refine b_iinc rfl rfl (Nat.le_of_ble_eq_true rfl) ?_
                refine b_goto rfl ?_
                first | exact b_eq (ih 1 (Or.inl (And.intro rfl (hs1.mpr (And.intro hv (fun z => absurd c_35 z)))))) (by rw [nI_succ]; rfl) rfl rfl | exact b_eq (ih 0 (Or.inr (And.intro rfl (fun z => c_51 ((hs1.mp z).2 c_35))))) (by rw [nI_succ]; rfl) rfl rfl | exact b_eq (ih 1 (Or.inl (And.intro rfl (hs1.mpr (And.intro hv (fun _ => c_51)))))) (by rw [nI_succ]; rfl) rfl rfl
              · refine b_iconst rfl ?_
                refine b_goto rfl ?_
                refine b_istore_n rfl (Nat.le_of_ble_eq_true rfl) ?_
                refine b_iinc rfl rfl (Nat.le_of_ble_eq_true rfl) ?_
                refine b_goto rfl ?_
                first | exact b_eq (ih 1 (Or.inl (And.intro rfl (hs1.mpr (And.intro hv (fun z => absurd c_35 z)))))) (by rw [nI_succ]; rfl) rfl rfl | exact b_eq (ih 0 (Or.inr (And.intro rfl (fun z => c_51 ((hs1.mp z).2 c_35))))) (by rw [nI_succ]; rfl) rfl rfl | exact b_eq (ih 1 (Or.inl (And.intro rfl (hs1.mpr (And.intro hv (fun _ => c_51)))))) (by rw [nI_succ]; rfl) rfl rfl
      · refine b_iload_n rfl rfl ?_
        refine b_aload_n rfl rfl ?_
        refine b_callV rfl rfl hk_M_knots rfl rfl rfl (by first | rfl | assumption) rfl (Nat.le_of_ble_eq_true rfl) (q_M_knots hM hn) (Nat.le_of_ble_eq_true rfl) (fun r_20 D_20 q_20 => ?_)
        obtain ⟨rfl, rfl⟩ := q_20
        refine b_icmp_ge rfl (fun c_23 => ?_) (fun c_23 => ?_)
        · exact absurd c_23 (nI_ge hk (by omega))
        · refine b_iload_n rfl rfl ?_
          refine b_if_eq rfl (fun c_27 => ?_) (fun c_27 => ?_)
          · refine b_iconst rfl ?_
            refine b_istore_n rfl (Nat.le_of_ble_eq_true rfl) ?_
            refine b_iinc rfl rfl (Nat.le_of_ble_eq_true rfl) ?_
            refine b_goto rfl ?_
            exact b_eq (ih 0 (Or.inr (And.intro rfl (fun z => hv (hs1.mp z).1)))) (by rw [nI_succ]; rfl) rfl rfl
          · exact absurd rfl c_27
  refine b_aload_n rfl rfl ?_
  refine b_iload_n rfl rfl ?_
  refine b_callV rfl rfl hk_M_opposes rfl rfl rfl (by first | rfl | assumption) rfl (Nat.le_of_ble_eq_true rfl) (q_M_opposes hB0) (Nat.le_of_ble_eq_true rfl) (fun r_2 D_2 q_2 => ?_)
  obtain ⟨rfl, rfl⟩ := q_2
  refine b_iload_n rfl rfl ?_
  refine b_iand rfl ?_
  refine b_if_ne rfl (fun c_7 => ?_) (fun c_7 => ?_)
  · refine b_iconst rfl ?_
    refine b_istore_n rfl (Nat.le_of_ble_eq_true rfl) ?_
    refine b_iconst rfl ?_
    refine b_istore_n rfl (Nat.le_of_ble_eq_true rfl) ?_
    first | exact b_eq (loop 0 (Or.inr (And.intro rfl (fun z => c_7 z.1)))) (by rw [nI_0]; rfl) rfl rfl | exact b_eq (loop 1 (Or.inl (And.intro rfl (And.intro c_7 (fun j hj => absurd hj (Nat.not_lt_zero j)))))) (by rw [nI_0]; rfl) rfl rfl
  · refine b_iconst rfl ?_
    refine b_goto rfl ?_
    refine b_istore_n rfl (Nat.le_of_ble_eq_true rfl) ?_
    refine b_iconst rfl ?_
    refine b_istore_n rfl (Nat.le_of_ble_eq_true rfl) ?_
    first | exact b_eq (loop 0 (Or.inr (And.intro rfl (fun z => c_7 z.1)))) (by rw [nI_0]; rfl) rfl rfl | exact b_eq (loop 1 (Or.inl (And.intro rfl (And.intro c_7 (fun j hj => absurd hj (Nat.not_lt_zero j)))))) (by rw [nI_0]; rfl) rfl rfl
theorem nI_shl8 {n : Nat} (h : n ≤ 8) : (1 : Int32) <<< (nI n &&& 31) = nI (2 ^ n) := nI_shl (by omega)
theorem q_M_stands (hB : hs_B I R N Q) : hn_F 3 hm_M_stands [.ref 188] (I, J, R) (fun r D' => hs_sm I J R D' ∧ r = some (.int (v_stands (nA N) N.1 (2 ^ N.1)))) := by
  obtain ⟨p0, p8⟩ := pw8 hB.2.1.1.2.1
  refine hn_F_of _ hk_M_stands rfl (Nat.le_of_ble_eq_true rfl) ?_
  refine b_aload_n rfl rfl ?_
  refine b_iconst rfl ?_
  refine b_putI rfl (by first | rfl | assumption) rfl rfl ⟨rfl, rfl⟩ ?_
  have hB1 := hs_B_0 (v := 0) hB
  have hs0 : hs_sm I J R (hn_u I 188 0 0, J, R) := hs_sm_0
  generalize hn_u I 188 0 0 = I0 at hB1 hs0 ⊢
  have hB2 := hB1
  obtain ⟨hR, hN, hQ, hfm, hw, hAw⟩ := hB1
  have hM := hs_M_of hR
  have hN0 := hN
  have hQ0 := hQ
  have hw0 := hw
  obtain ⟨⟨hn, n8, hnp, n4, hkn⟩, hL⟩ := hN
  obtain ⟨⟨_, hVs, hVw, hVp, hVh⟩, hVt⟩ := hQ
  simp only [Nat.zero_add] at hVs hVw hVp hVh
  obtain ⟨m1, m4, m5, m6, m9, m10, m11, m12, m14, m15, m16, m17, m20, m21, m22, m23, m25, m27, m28, m29, m30, m31, m32⟩ := id hM
  refine b_iconst rfl ?_
  refine b_istore_n rfl (Nat.le_of_ble_eq_true rfl) ?_
  refine b_iconst rfl ?_
  refine b_istore_n rfl (Nat.le_of_ble_eq_true rfl) ?_
  refine b_eq (sp_ind (2 ^ N.1) (fun k => hn_B 3 hm_M_stands (fun r D' => hs_sm I J R D' ∧ r = some (.int (v_stands (nA N) N.1 (2 ^ N.1)))) 9 [.ref 188, .int (v_stands (nA N) N.1 k), .int (nI k)] [] (I0, J, R)) ?_ ?_) (by rw [nI_0]; rfl) rfl rfl
  · refine b_iload_n rfl rfl ?_
    refine b_iconst rfl ?_
    refine b_aload_n rfl rfl ?_
    refine b_callV rfl rfl hk_M_knots rfl rfl rfl (by first | rfl | assumption) rfl (Nat.le_of_ble_eq_true rfl) (q_M_knots hM hn) (Nat.le_of_ble_eq_true rfl) (fun r_12 D_12 q_12 => ?_)
    obtain ⟨rfl, rfl⟩ := q_12
    refine b_ishl rfl ?_
    rw [nI_shl8 n8]
    refine b_icmp_ge rfl (fun c_16 => ?_) (fun c_16 => ?_)
    · refine b_iload_n rfl rfl ?_
      exact b_ireturn rfl trivial (⟨hs0, rfl⟩)
    · exact absurd (nI_le (Nat.le_refl _) (by omega)) c_16
  · intro k hk ih
    refine b_iload_n rfl rfl ?_
    refine b_iconst rfl ?_
    refine b_aload_n rfl rfl ?_
    refine b_callV rfl rfl hk_M_knots rfl rfl rfl (by first | rfl | assumption) rfl (Nat.le_of_ble_eq_true rfl) (q_M_knots hM hn) (Nat.le_of_ble_eq_true rfl) (fun r_12 D_12 q_12 => ?_)
    obtain ⟨rfl, rfl⟩ := q_12
    refine b_ishl rfl ?_
    rw [nI_shl8 n8]
    refine b_icmp_ge rfl (fun c_16 => ?_) (fun c_16 => ?_)
    · exact absurd c_16 (nI_ge hk (by omega))
    · refine b_iload_n rfl rfl ?_
      refine b_aload_n rfl rfl ?_
      refine b_iload_n rfl rfl ?_
      refine b_callV rfl rfl hk_M_doesStand rfl rfl rfl (by first | rfl | assumption) rfl (Nat.le_of_ble_eq_true rfl) (q_M_doesStand hB2) (Nat.le_of_ble_eq_true rfl) (fun r_22 D_22 q_22 => ?_)
      obtain ⟨rfl, rfl⟩ := q_22
      refine b_if_eq rfl (fun c_25 => ?_) (fun c_25 => ?_)
      · refine b_iconst rfl ?_
        refine b_iadd rfl ?_
        refine b_istore_n rfl (Nat.le_of_ble_eq_true rfl) ?_
        refine b_iinc rfl rfl (Nat.le_of_ble_eq_true rfl) ?_
        refine b_goto rfl ?_
        exact b_eq ih (by have h1 := c_25; rw [if01_z] at h1; first | (simp only [nI_succ, v_stands, sp_up, if_neg h1, Int32.add_zero]; rfl) | (simp only [nI_succ, v_stands, sp_up, if_pos (Decidable.not_not.mp h1)]; rfl)) rfl rfl
      · refine b_iconst rfl ?_
        refine b_goto rfl ?_
        refine b_iadd rfl ?_
        refine b_istore_n rfl (Nat.le_of_ble_eq_true rfl) ?_
        refine b_iinc rfl rfl (Nat.le_of_ble_eq_true rfl) ?_
        refine b_goto rfl ?_
        exact b_eq ih (by have h1 := c_25; rw [if01_z] at h1; first | (simp only [nI_succ, v_stands, sp_up, if_neg h1, Int32.add_zero]; rfl) | (simp only [nI_succ, v_stands, sp_up, if_pos (Decidable.not_not.mp h1)]; rfl)) rfl rfl
theorem q_M_largest (hB : hs_B I R N Q) : hn_F 3 hm_M_largest [.ref 188] (I, J, R) (fun r D' => hs_sm I J R D' ∧ r = some (.int (v_largest (nA N) N.1 (2 ^ N.1)))) := by
  obtain ⟨p0, p8⟩ := pw8 hB.2.1.1.2.1
  refine hn_F_of _ hk_M_largest rfl (Nat.le_of_ble_eq_true rfl) ?_
  refine b_aload_n rfl rfl ?_
  refine b_iconst rfl ?_
  refine b_putI rfl (by first | rfl | assumption) rfl rfl ⟨rfl, rfl⟩ ?_
  have hB1 := hs_B_0 (v := 0) hB
  have hs0 : hs_sm I J R (hn_u I 188 0 0, J, R) := hs_sm_0
  generalize hn_u I 188 0 0 = I0 at hB1 hs0 ⊢
  have hB2 := hB1
  obtain ⟨hR, hN, hQ, hfm, hw, hAw⟩ := hB1
  have hM := hs_M_of hR
  have hN0 := hN
  have hQ0 := hQ
  have hw0 := hw
  obtain ⟨⟨hn, n8, hnp, n4, hkn⟩, hL⟩ := hN
  obtain ⟨⟨_, hVs, hVw, hVp, hVh⟩, hVt⟩ := hQ
  simp only [Nat.zero_add] at hVs hVw hVp hVh
  obtain ⟨m1, m4, m5, m6, m9, m10, m11, m12, m14, m15, m16, m17, m20, m21, m22, m23, m25, m27, m28, m29, m30, m31, m32⟩ := id hM
  refine b_iconst rfl ?_
  refine b_istore_n rfl (Nat.le_of_ble_eq_true rfl) ?_
  refine b_iconst rfl ?_
  refine b_istore_n rfl (Nat.le_of_ble_eq_true rfl) ?_
  refine b_eq (sp_ind (2 ^ N.1) (fun k => hn_B 3 hm_M_largest (fun r D' => hs_sm I J R D' ∧ r = some (.int (v_largest (nA N) N.1 (2 ^ N.1)))) 9 [.ref 188, .int (v_largest (nA N) N.1 k), .int (nI k)] [] (I0, J, R)) ?_ ?_) (by rw [nI_0]; rfl) rfl rfl
  · refine b_iload_n rfl rfl ?_
    refine b_iconst rfl ?_
    refine b_aload_n rfl rfl ?_
    refine b_callV rfl rfl hk_M_knots rfl rfl rfl (by first | rfl | assumption) rfl (Nat.le_of_ble_eq_true rfl) (q_M_knots hM hn) (Nat.le_of_ble_eq_true rfl) (fun r_12 D_12 q_12 => ?_)
    obtain ⟨rfl, rfl⟩ := q_12
    refine b_ishl rfl ?_
    rw [nI_shl8 n8]
    refine b_icmp_ge rfl (fun c_16 => ?_) (fun c_16 => ?_)
    · refine b_iload_n rfl rfl ?_
      exact b_ireturn rfl trivial (⟨hs0, rfl⟩)
    · exact absurd (nI_le (Nat.le_refl _) (by omega)) c_16
  · intro k hk ih
    have e : v_largest (nA N) N.1 (k + 1) = if sp_pop (v_largest (nA N) N.1 k) < sp_pop (nI k) ∧ sp_stand (nA N) N.1 (nI k) then nI k else v_largest (nA N) N.1 k := rfl
    rw [e] at ih
    refine b_iload_n rfl rfl ?_
    refine b_iconst rfl ?_
    refine b_aload_n rfl rfl ?_
    refine b_callV rfl rfl hk_M_knots rfl rfl rfl (by first | rfl | assumption) rfl (Nat.le_of_ble_eq_true rfl) (q_M_knots hM hn) (Nat.le_of_ble_eq_true rfl) (fun r_12 D_12 q_12 => ?_)
    obtain ⟨rfl, rfl⟩ := q_12
    refine b_ishl rfl ?_
    rw [nI_shl8 n8]
    refine b_icmp_ge rfl (fun c_16 => ?_) (fun c_16 => ?_)
    · exact absurd c_16 (nI_ge hk (by omega))
    · refine b_iload_n rfl rfl ?_
      refine b_callS rfl rfl hk_M_bits rfl rfl rfl (Nat.le_of_ble_eq_true rfl) (q_M_bits) (Nat.le_of_ble_eq_true rfl) (fun r_20 D_20 q_20 => ?_)
      obtain ⟨rfl, rfl⟩ := q_20
      refine b_iload_n rfl rfl ?_
      refine b_callS rfl rfl hk_M_bits rfl rfl rfl (Nat.le_of_ble_eq_true rfl) (q_M_bits) (Nat.le_of_ble_eq_true rfl) (fun r_24 D_24 q_24 => ?_)
      obtain ⟨rfl, rfl⟩ := q_24
      refine b_icmp_le rfl (fun c_27 => ?_) (fun c_27 => ?_)
      · refine b_iload_n rfl rfl ?_
        refine b_istore_n rfl (Nat.le_of_ble_eq_true rfl) ?_
        refine b_iinc rfl rfl (Nat.le_of_ble_eq_true rfl) ?_
        refine b_goto rfl ?_
        first | (rw [if_neg (fun z => Int32.not_lt.mpr c_27 z.1)] at ih; exact b_eq ih (by rw [nI_succ]; rfl) rfl rfl) | (rw [if_neg (fun z => if01_z.mp c_35 z.2)] at ih; exact b_eq ih (by rw [nI_succ]; rfl) rfl rfl) | (rw [if_pos ⟨Int32.not_le.mp c_27, if01_n c_35⟩] at ih; exact b_eq ih (by rw [nI_succ]; rfl) rfl rfl)
      · refine b_aload_n rfl rfl ?_
        refine b_iload_n rfl rfl ?_
        refine b_callV rfl rfl hk_M_doesStand rfl rfl rfl (by first | rfl | assumption) rfl (Nat.le_of_ble_eq_true rfl) (q_M_doesStand hB2) (Nat.le_of_ble_eq_true rfl) (fun r_32 D_32 q_32 => ?_)
        obtain ⟨rfl, rfl⟩ := q_32
        refine b_if_eq rfl (fun c_35 => ?_) (fun c_35 => ?_)
        · refine b_iload_n rfl rfl ?_
          refine b_istore_n rfl (Nat.le_of_ble_eq_true rfl) ?_
          refine b_iinc rfl rfl (Nat.le_of_ble_eq_true rfl) ?_
          refine b_goto rfl ?_
          first | (rw [if_neg (fun z => Int32.not_lt.mpr c_27 z.1)] at ih; exact b_eq ih (by rw [nI_succ]; rfl) rfl rfl) | (rw [if_neg (fun z => if01_z.mp c_35 z.2)] at ih; exact b_eq ih (by rw [nI_succ]; rfl) rfl rfl) | (rw [if_pos ⟨Int32.not_le.mp c_27, if01_n c_35⟩] at ih; exact b_eq ih (by rw [nI_succ]; rfl) rfl rfl)
        · refine b_iload_n rfl rfl ?_
          refine b_goto rfl ?_
          refine b_istore_n rfl (Nat.le_of_ble_eq_true rfl) ?_
          refine b_iinc rfl rfl (Nat.le_of_ble_eq_true rfl) ?_
          refine b_goto rfl ?_
          first | (rw [if_neg (fun z => Int32.not_lt.mpr c_27 z.1)] at ih; exact b_eq ih (by rw [nI_succ]; rfl) rfl rfl) | (rw [if_neg (fun z => if01_z.mp c_35 z.2)] at ih; exact b_eq ih (by rw [nI_succ]; rfl) rfl rfl) | (rw [if_pos ⟨Int32.not_le.mp c_27, if01_n c_35⟩] at ih; exact b_eq ih (by rw [nI_succ]; rfl) rfl rfl)
theorem sp_whole_c {ag : Nat → Int32} {n k : Nat} (h : ∀ k, k < n → sp_lt n (ag k)) (hz : ∀ k, n ≤ k → ag k = 0) (hn : n ≤ 8) (hk : k < 2 ^ n) : nI k ||| sp_union ag (nI k) 8 = nI (2 ^ n) - 1 ↔ (nI (2 ^ n - 1) &&& (nI k ^^^ -1)) &&& (sp_union ag (nI k) 8 ^^^ -1) = 0 := by
  have hlt : ∀ k, sp_lt n (ag k) := fun k => by
    by_cases hh : k < n
    · exact h k hh
    · rw [hz k (by omega)]; exact sp_lt_0
  have hp := pw8 hn
  have e1 : nI (2 ^ n) - 1 = nI (2 ^ n - 1) := by rw [← nI_shl8 hn, nI_all hn]
  have hall : sp_lt n (nI (2 ^ n - 1)) := ⟨2 ^ n - 1, by omega, rfl⟩
  have hab : ∀ j, j < n → sp_bit (nI (2 ^ n - 1)) j := fun j hj => by rw [← nI_all hn]; exact (sp_bit_all hn (by omega)).mpr hj
  rw [e1, sp_andn (sp_lt_all _ hall (by omega)) (by omega)]
  constructor
  · intro e j hj hb
    rw [sp_bit_and (by omega), sp_bit_not (by omega)] at hb
    have := hab j hj
    rw [← e, sp_bit_or (by omega)] at this
    exact this.resolve_left hb.2
  · intro g
    refine sp_ext (sp_lt_or ⟨k, hk, rfl⟩ (sp_union_lt hlt 8)) hall (by omega) (fun j hj => ?_)
    rw [sp_bit_or (by omega)]
    refine ⟨fun _ => hab j hj, fun _ => ?_⟩
    by_cases hb : sp_bit (nI k) j
    · exact Or.inl hb
    · exact Or.inr (g j hj (by rw [sp_bit_and (by omega), sp_bit_not (by omega)]; exact ⟨hab j hj, hb⟩))
theorem q_M_whole (hB : hs_B I R N Q) : hn_F 3 hm_M_whole [.ref 188] (I, J, R) (fun r D' => hs_sm I J R D' ∧ r = some (.int (v_whole (nA N) N.1 (2 ^ N.1)))) := by
  obtain ⟨p0, p8⟩ := pw8 hB.2.1.1.2.1
  refine hn_F_of _ hk_M_whole rfl (Nat.le_of_ble_eq_true rfl) ?_
  refine b_aload_n rfl rfl ?_
  refine b_iconst rfl ?_
  refine b_putI rfl (by first | rfl | assumption) rfl rfl ⟨rfl, rfl⟩ ?_
  have hB1 := hs_B_0 (v := 0) hB
  have hs0 : hs_sm I J R (hn_u I 188 0 0, J, R) := hs_sm_0
  generalize hn_u I 188 0 0 = I0 at hB1 hs0 ⊢
  have hB2 := hB1
  obtain ⟨hR, hN, hQ, hfm, hw, hAw⟩ := hB1
  have hM := hs_M_of hR
  have hN0 := hN
  have hQ0 := hQ
  have hw0 := hw
  obtain ⟨⟨hn, n8, hnp, n4, hkn⟩, hL⟩ := hN
  obtain ⟨⟨_, hVs, hVw, hVp, hVh⟩, hVt⟩ := hQ
  simp only [Nat.zero_add] at hVs hVw hVp hVh
  obtain ⟨m1, m4, m5, m6, m9, m10, m11, m12, m14, m15, m16, m17, m20, m21, m22, m23, m25, m27, m28, m29, m30, m31, m32⟩ := id hM
  refine b_iconst rfl ?_
  refine b_istore_n rfl (Nat.le_of_ble_eq_true rfl) ?_
  refine b_iconst rfl ?_
  refine b_istore_n rfl (Nat.le_of_ble_eq_true rfl) ?_
  refine b_eq (sp_ind (2 ^ N.1) (fun k => hn_B 3 hm_M_whole (fun r D' => hs_sm I J R D' ∧ r = some (.int (v_whole (nA N) N.1 (2 ^ N.1)))) 9 [.ref 188, .int (v_whole (nA N) N.1 k), .int (nI k)] [] (I0, J, R)) ?_ ?_) (by rw [nI_0]; rfl) rfl rfl
  · refine b_iload_n rfl rfl ?_
    refine b_iconst rfl ?_
    refine b_aload_n rfl rfl ?_
    refine b_callV rfl rfl hk_M_knots rfl rfl rfl (by first | rfl | assumption) rfl (Nat.le_of_ble_eq_true rfl) (q_M_knots hM hn) (Nat.le_of_ble_eq_true rfl) (fun r_12 D_12 q_12 => ?_)
    obtain ⟨rfl, rfl⟩ := q_12
    refine b_ishl rfl ?_
    rw [nI_shl8 n8]
    refine b_icmp_ge rfl (fun c_16 => ?_) (fun c_16 => ?_)
    · refine b_iload_n rfl rfl ?_
      exact b_ireturn rfl trivial (⟨hs0, rfl⟩)
    · exact absurd (nI_le (Nat.le_refl _) (by omega)) c_16
  · intro k hk ih
    have e : v_whole (nA N) N.1 (k + 1) = if (nI (2 ^ N.1 - 1) &&& (nI k ^^^ -1)) &&& (sp_union (nA N) (nI k) 8 ^^^ -1) = 0 ∧ sp_stand (nA N) N.1 (nI k) then v_whole (nA N) N.1 k + 1 else v_whole (nA N) N.1 k := rfl
    have hc := sp_whole_c hAw.1 hAw.2 n8 hk
    rw [e] at ih
    refine b_iload_n rfl rfl ?_
    refine b_iconst rfl ?_
    refine b_aload_n rfl rfl ?_
    refine b_callV rfl rfl hk_M_knots rfl rfl rfl (by first | rfl | assumption) rfl (Nat.le_of_ble_eq_true rfl) (q_M_knots hM hn) (Nat.le_of_ble_eq_true rfl) (fun r_12 D_12 q_12 => ?_)
    obtain ⟨rfl, rfl⟩ := q_12
    refine b_ishl rfl ?_
    rw [nI_shl8 n8]
    refine b_icmp_ge rfl (fun c_16 => ?_) (fun c_16 => ?_)
    · exact absurd c_16 (nI_ge hk (by omega))
    · refine b_iload_n rfl rfl ?_
      refine b_aload_n rfl rfl ?_
      refine b_iload_n rfl rfl ?_
      refine b_callV rfl rfl hk_M_doesStand rfl rfl rfl (by first | rfl | assumption) rfl (Nat.le_of_ble_eq_true rfl) (q_M_doesStand hB2) (Nat.le_of_ble_eq_true rfl) (fun r_22 D_22 q_22 => ?_)
      obtain ⟨rfl, rfl⟩ := q_22
      refine b_if_eq rfl (fun c_25 => ?_) (fun c_25 => ?_)
      · refine b_iconst rfl ?_
        refine b_iadd rfl ?_
        refine b_istore_n rfl (Nat.le_of_ble_eq_true rfl) ?_
        refine b_iinc rfl rfl (Nat.le_of_ble_eq_true rfl) ?_
        refine b_goto rfl ?_
        first | (rw [if_neg (fun z => if01_z.mp c_25 z.2)] at ih; exact b_eq ih (by rw [Int32.add_zero, nI_succ]; rfl) rfl rfl) | (rw [if_neg (fun z => c_43 (hc.mpr z.1))] at ih; exact b_eq ih (by rw [Int32.add_zero, nI_succ]; rfl) rfl rfl) | (rw [if_pos ⟨hc.mp c_43, if01_n c_25⟩] at ih; exact b_eq ih (by rw [nI_succ]; rfl) rfl rfl)
      · refine b_iload_n rfl rfl ?_
        refine b_aload_n rfl rfl ?_
        refine b_iload_n rfl rfl ?_
        refine b_callV rfl rfl hk_M_opposes rfl rfl rfl (by first | rfl | assumption) rfl (Nat.le_of_ble_eq_true rfl) (q_M_opposes hB2) (Nat.le_of_ble_eq_true rfl) (fun r_31 D_31 q_31 => ?_)
        obtain ⟨rfl, rfl⟩ := q_31
        refine b_ior rfl ?_
        refine b_iconst rfl ?_
        refine b_aload_n rfl rfl ?_
        refine b_callV rfl rfl hk_M_knots rfl rfl rfl (by first | rfl | assumption) rfl (Nat.le_of_ble_eq_true rfl) (q_M_knots hM hn) (Nat.le_of_ble_eq_true rfl) (fun r_37 D_37 q_37 => ?_)
        obtain ⟨rfl, rfl⟩ := q_37
        refine b_ishl rfl ?_
        refine b_iconst rfl ?_
        refine b_isub rfl ?_
        rw [nI_shl8 n8]
        refine b_icmp_ne rfl (fun c_43 => ?_) (fun c_43 => ?_)
        · refine b_iconst rfl ?_
          refine b_iadd rfl ?_
          refine b_istore_n rfl (Nat.le_of_ble_eq_true rfl) ?_
          refine b_iinc rfl rfl (Nat.le_of_ble_eq_true rfl) ?_
          refine b_goto rfl ?_
          first | (rw [if_neg (fun z => if01_z.mp c_25 z.2)] at ih; exact b_eq ih (by rw [Int32.add_zero, nI_succ]; rfl) rfl rfl) | (rw [if_neg (fun z => c_43 (hc.mpr z.1))] at ih; exact b_eq ih (by rw [Int32.add_zero, nI_succ]; rfl) rfl rfl) | (rw [if_pos ⟨hc.mp c_43, if01_n c_25⟩] at ih; exact b_eq ih (by rw [nI_succ]; rfl) rfl rfl)
        · refine b_iconst rfl ?_
          refine b_goto rfl ?_
          refine b_iadd rfl ?_
          refine b_istore_n rfl (Nat.le_of_ble_eq_true rfl) ?_
          refine b_iinc rfl rfl (Nat.le_of_ble_eq_true rfl) ?_
          refine b_goto rfl ?_
          first | (rw [if_neg (fun z => if01_z.mp c_25 z.2)] at ih; exact b_eq ih (by rw [Int32.add_zero, nI_succ]; rfl) rfl rfl) | (rw [if_neg (fun z => c_43 (hc.mpr z.1))] at ih; exact b_eq ih (by rw [Int32.add_zero, nI_succ]; rfl) rfl rfl) | (rw [if_pos ⟨hc.mp c_43, if01_n c_25⟩] at ih; exact b_eq ih (by rw [nI_succ]; rfl) rfl rfl)
theorem q_M_opposed {x : Int32} (hB : hs_B I R N Q) : hn_F 2 hm_M_opposed [.ref 188, .int x] (I, J, R) (fun r D' => hs_sm I J R D' ∧ r = some (.int (sp_at x N.1 (fun k => sp_opk (nA N) N.1 k) (-1)))) := by
  have n8 : N.1 ≤ 8 := hB.2.1.1.2.1
  refine hn_F_of _ hk_M_opposed rfl (Nat.le_of_ble_eq_true rfl) ?_
  by_cases hx : sp_in x N.1
  · obtain ⟨k, hk, rfl⟩ := sp_in_nat hx
    rw [sp_at_in hk n8]
    refine b_aload_n rfl rfl ?_
    refine b_iconst rfl ?_
    refine b_putI rfl (by first | rfl | assumption) rfl rfl ⟨rfl, rfl⟩ ?_
    have hB1 := hs_B_0 (v := 0) hB
    have hs0 : hs_sm I J R (hn_u I 188 0 0, J, R) := hs_sm_0
    generalize hn_u I 188 0 0 = I0 at hB1 hs0 ⊢
    have hB2 := hB1
    obtain ⟨hR, hN, hQ, hfm, hw, hAw⟩ := hB1
    have hM := hs_M_of hR
    have hN0 := hN
    have hQ0 := hQ
    have hw0 := hw
    obtain ⟨⟨hn, n8, hnp, n4, hkn⟩, hL⟩ := hN
    obtain ⟨⟨_, hVs, hVw, hVp, hVh⟩, hVt⟩ := hQ
    simp only [Nat.zero_add] at hVs hVw hVp hVh
    obtain ⟨m1, m4, m5, m6, m9, m10, m11, m12, m14, m15, m16, m17, m20, m21, m22, m23, m25, m27, m28, m29, m30, m31, m32⟩ := id hM
    refine b_aload_n rfl rfl ?_
    refine b_iload_n rfl rfl ?_
    refine b_callV rfl rfl hk_M_isKnot rfl rfl rfl (by first | rfl | assumption) rfl (Nat.le_of_ble_eq_true rfl) (q_M_isKnot hM hn n8) (Nat.le_of_ble_eq_true rfl) (fun r_7 D_7 q_7 => ?_)
    obtain ⟨rfl, hq⟩ := q_7
    rw [if_pos hx] at hq
    subst hq
    refine b_if_eq rfl (fun c_10 => ?_) (fun c_10 => ?_)
    · exact absurd c_10 (by decide)
    · refine b_aload_n rfl rfl ?_
      refine b_iload_n rfl rfl ?_
      refine b_callV rfl rfl hk_M_opposedTo rfl rfl rfl (by first | rfl | assumption) rfl (Nat.le_of_ble_eq_true rfl) (q_M_opposedTo hB2 hk) (Nat.le_of_ble_eq_true rfl) (fun r_15 D_15 q_15 => ?_)
      obtain ⟨rfl, rfl⟩ := q_15
      refine b_goto rfl ?_
      exact b_ireturn rfl trivial (⟨hs0, rfl⟩)
  · rw [sp_at_out hx]
    refine b_aload_n rfl rfl ?_
    refine b_iconst rfl ?_
    refine b_putI rfl (by first | rfl | assumption) rfl rfl ⟨rfl, rfl⟩ ?_
    have hB1 := hs_B_0 (v := 0) hB
    have hs0 : hs_sm I J R (hn_u I 188 0 0, J, R) := hs_sm_0
    generalize hn_u I 188 0 0 = I0 at hB1 hs0 ⊢
    have hB2 := hB1
    obtain ⟨hR, hN, hQ, hfm, hw, hAw⟩ := hB1
    have hM := hs_M_of hR
    have hN0 := hN
    have hQ0 := hQ
    have hw0 := hw
    obtain ⟨⟨hn, n8, hnp, n4, hkn⟩, hL⟩ := hN
    obtain ⟨⟨_, hVs, hVw, hVp, hVh⟩, hVt⟩ := hQ
    simp only [Nat.zero_add] at hVs hVw hVp hVh
    obtain ⟨m1, m4, m5, m6, m9, m10, m11, m12, m14, m15, m16, m17, m20, m21, m22, m23, m25, m27, m28, m29, m30, m31, m32⟩ := id hM
    refine b_aload_n rfl rfl ?_
    refine b_iload_n rfl rfl ?_
    refine b_callV rfl rfl hk_M_isKnot rfl rfl rfl (by first | rfl | assumption) rfl (Nat.le_of_ble_eq_true rfl) (q_M_isKnot hM hn n8) (Nat.le_of_ble_eq_true rfl) (fun r_7 D_7 q_7 => ?_)
    obtain ⟨rfl, hq⟩ := q_7
    rw [if_neg hx] at hq
    subst hq
    refine b_if_eq rfl (fun c_10 => ?_) (fun c_10 => ?_)
    · refine b_iconst rfl ?_
      exact b_ireturn rfl trivial (⟨hs0, rfl⟩)
    · exact absurd rfl c_10
theorem q_M_defends {x : Int32} (hB : hs_B I R N Q) : hn_F 2 hm_M_defends [.ref 188, .int x] (I, J, R) (fun r D' => hs_sm I J R D' ∧ r = some (.int (sp_at x N.1 (fun k => sp_opp (nA N) (sp_opk (nA N) N.1 k) N.1) (-1)))) := by
  have n8 : N.1 ≤ 8 := hB.2.1.1.2.1
  refine hn_F_of _ hk_M_defends rfl (Nat.le_of_ble_eq_true rfl) ?_
  by_cases hx : sp_in x N.1
  · obtain ⟨q, hq, rfl⟩ := sp_in_nat hx
    rw [sp_at_in hq n8, ← sp_defends hB.2.2.2.2.2.1 (show N.1 ≤ 31 by omega)]
    have L19 : ∀ I0, hs_B I0 R N Q → hs_sm I J R (I0, J, R) → hn_B 2 hm_M_defends (fun r D' => hs_sm I J R D' ∧ r = some (.int (sp_union (fun o => sp_opk (nA N) N.1 o) (sp_opk (nA N) N.1 q) N.1))) 19 [.ref 188, .int (nI q), .int (sp_union (fun o => sp_opk (nA N) N.1 o) (sp_opk (nA N) N.1 q) 0), .int (nI 0)] [] (I0, J, R) := by
      intro I0 hB hs0
      have hB2 := hB
      obtain ⟨hR, hN, hQ, hfm, hw, hAw⟩ := hB
      have hM := hs_M_of hR
      have hN0 := hN
      have hQ0 := hQ
      have hw0 := hw
      obtain ⟨⟨hn, n8, hnp, n4, hkn⟩, hL⟩ := hN
      obtain ⟨⟨_, hVs, hVw, hVp, hVh⟩, hVt⟩ := hQ
      simp only [Nat.zero_add] at hVs hVw hVp hVh
      obtain ⟨m1, m4, m5, m6, m9, m10, m11, m12, m14, m15, m16, m17, m20, m21, m22, m23, m25, m27, m28, m29, m30, m31, m32⟩ := id hM
      refine sp_ind N.1 (fun k => hn_B 2 hm_M_defends (fun r D' => hs_sm I J R D' ∧ r = some (.int (sp_union (fun o => sp_opk (nA N) N.1 o) (sp_opk (nA N) N.1 q) N.1))) 19 [.ref 188, .int (nI q), .int (sp_union (fun o => sp_opk (nA N) N.1 o) (sp_opk (nA N) N.1 q) k), .int (nI k)] [] (I0, J, R)) ?_ ?_
      · refine b_iload_n rfl rfl ?_
        refine b_aload_n rfl rfl ?_
        refine b_callV rfl rfl hk_M_knots rfl rfl rfl (by first | rfl | assumption) rfl (Nat.le_of_ble_eq_true rfl) (q_M_knots hM hn) (Nat.le_of_ble_eq_true rfl) (fun r_21 D_21 q_21 => ?_)
        obtain ⟨rfl, rfl⟩ := q_21
        refine b_icmp_ge rfl (fun c_24 => ?_) (fun c_24 => ?_)
        · refine b_iload_n rfl rfl ?_
          exact b_ireturn rfl trivial (⟨hs0, rfl⟩)
        · exact absurd (nI_le (Nat.le_refl _) (by omega)) c_24
      · intro k hk ih
        refine b_iload_n rfl rfl ?_
        refine b_aload_n rfl rfl ?_
        refine b_callV rfl rfl hk_M_knots rfl rfl rfl (by first | rfl | assumption) rfl (Nat.le_of_ble_eq_true rfl) (q_M_knots hM hn) (Nat.le_of_ble_eq_true rfl) (fun r_21 D_21 q_21 => ?_)
        obtain ⟨rfl, rfl⟩ := q_21
        refine b_icmp_ge rfl (fun c_24 => ?_) (fun c_24 => ?_)
        · exact absurd c_24 (nI_ge hk (by omega))
        · refine b_iload_n rfl rfl ?_
          refine b_aload_n rfl rfl ?_
          refine b_iload_n rfl rfl ?_
          refine b_callV rfl rfl hk_M_opposedTo rfl rfl rfl (by first | rfl | assumption) rfl (Nat.le_of_ble_eq_true rfl) (q_M_opposedTo hB2 hq) (Nat.le_of_ble_eq_true rfl) (fun r_30 D_30 q_30 => ?_)
          obtain ⟨rfl, rfl⟩ := q_30
          refine b_iload_n rfl rfl ?_
          refine b_ishr rfl ?_
          refine b_iconst rfl ?_
          refine b_iand rfl ?_
          refine b_iconst rfl ?_
          refine b_icmp_ne rfl (fun c_38 => ?_) (fun c_38 => ?_)
          · refine b_iconst rfl ?_
            refine b_ior rfl ?_
            refine b_istore_n rfl (Nat.le_of_ble_eq_true rfl) ?_
            refine b_iinc rfl rfl (Nat.le_of_ble_eq_true rfl) ?_
            refine b_goto rfl ?_
            exact b_eq ih (by have h1 := c_38; rw [hi_bit1] at h1; first | (simp only [nI_succ, sp_union, sp_up, if_neg h1, Int32.or_zero]; rfl) | (simp only [nI_succ, sp_union, sp_up, if_pos h1]; rfl)) rfl rfl
          · refine b_aload_n rfl rfl ?_
            refine b_iload_n rfl rfl ?_
            refine b_callV rfl rfl hk_M_opposedTo rfl rfl rfl (by first | rfl | assumption) rfl (Nat.le_of_ble_eq_true rfl) (q_M_opposedTo hB2 hk) (Nat.le_of_ble_eq_true rfl) (fun r_43 D_43 q_43 => ?_)
            obtain ⟨rfl, rfl⟩ := q_43
            refine b_goto rfl ?_
            refine b_ior rfl ?_
            refine b_istore_n rfl (Nat.le_of_ble_eq_true rfl) ?_
            refine b_iinc rfl rfl (Nat.le_of_ble_eq_true rfl) ?_
            refine b_goto rfl ?_
            exact b_eq ih (by have h1 := c_38; rw [hi_bit1] at h1; first | (simp only [nI_succ, sp_union, sp_up, if_neg h1, Int32.or_zero]; rfl) | (simp only [nI_succ, sp_union, sp_up, if_pos h1]; rfl)) rfl rfl
    refine b_aload_n rfl rfl ?_
    refine b_iconst rfl ?_
    refine b_putI rfl (by first | rfl | assumption) rfl rfl ⟨rfl, rfl⟩ ?_
    have hB1 := hs_B_0 (v := 0) hB
    have hs0 : hs_sm I J R (hn_u I 188 0 0, J, R) := hs_sm_0
    generalize hn_u I 188 0 0 = I0 at hB1 hs0 ⊢
    have hB2 := hB1
    obtain ⟨hR, hN, hQ, hfm, hw, hAw⟩ := hB1
    have hM := hs_M_of hR
    have hN0 := hN
    have hQ0 := hQ
    have hw0 := hw
    obtain ⟨⟨hn, n8, hnp, n4, hkn⟩, hL⟩ := hN
    obtain ⟨⟨_, hVs, hVw, hVp, hVh⟩, hVt⟩ := hQ
    simp only [Nat.zero_add] at hVs hVw hVp hVh
    obtain ⟨m1, m4, m5, m6, m9, m10, m11, m12, m14, m15, m16, m17, m20, m21, m22, m23, m25, m27, m28, m29, m30, m31, m32⟩ := id hM
    refine b_aload_n rfl rfl ?_
    refine b_iload_n rfl rfl ?_
    refine b_callV rfl rfl hk_M_isKnot rfl rfl rfl (by first | rfl | assumption) rfl (Nat.le_of_ble_eq_true rfl) (q_M_isKnot hM hn n8) (Nat.le_of_ble_eq_true rfl) (fun r_7 D_7 q_7 => ?_)
    obtain ⟨rfl, hq2⟩ := q_7
    rw [if_pos hx] at hq2
    subst hq2
    refine b_if_ne rfl (fun c_10 => ?_) (fun c_10 => ?_)
    · refine b_iconst rfl ?_
      refine b_istore_n rfl (Nat.le_of_ble_eq_true rfl) ?_
      refine b_iconst rfl ?_
      refine b_istore_n rfl (Nat.le_of_ble_eq_true rfl) ?_
      exact b_eq (L19 _ hB2 hs0) (by rw [nI_0]; rfl) rfl rfl
    · exact absurd c_10 (by decide)
  · rw [sp_at_out hx]
    refine b_aload_n rfl rfl ?_
    refine b_iconst rfl ?_
    refine b_putI rfl (by first | rfl | assumption) rfl rfl ⟨rfl, rfl⟩ ?_
    have hB1 := hs_B_0 (v := 0) hB
    have hs0 : hs_sm I J R (hn_u I 188 0 0, J, R) := hs_sm_0
    generalize hn_u I 188 0 0 = I0 at hB1 hs0 ⊢
    have hB2 := hB1
    obtain ⟨hR, hN, hQ, hfm, hw, hAw⟩ := hB1
    have hM := hs_M_of hR
    have hN0 := hN
    have hQ0 := hQ
    have hw0 := hw
    obtain ⟨⟨hn, n8, hnp, n4, hkn⟩, hL⟩ := hN
    obtain ⟨⟨_, hVs, hVw, hVp, hVh⟩, hVt⟩ := hQ
    simp only [Nat.zero_add] at hVs hVw hVp hVh
    obtain ⟨m1, m4, m5, m6, m9, m10, m11, m12, m14, m15, m16, m17, m20, m21, m22, m23, m25, m27, m28, m29, m30, m31, m32⟩ := id hM
    refine b_aload_n rfl rfl ?_
    refine b_iload_n rfl rfl ?_
    refine b_callV rfl rfl hk_M_isKnot rfl rfl rfl (by first | rfl | assumption) rfl (Nat.le_of_ble_eq_true rfl) (q_M_isKnot hM hn n8) (Nat.le_of_ble_eq_true rfl) (fun r_7 D_7 q_7 => ?_)
    obtain ⟨rfl, hq⟩ := q_7
    rw [if_neg hx] at hq
    subst hq
    refine b_if_ne rfl (fun c_10 => ?_) (fun c_10 => ?_)
    · exact absurd rfl c_10
    · refine b_iconst rfl ?_
      exact b_ireturn rfl trivial (⟨hs0, rfl⟩)
end HNmreas
