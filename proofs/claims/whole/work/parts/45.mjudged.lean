section HNmjudged
variable {I I' : Nat → Nat → Int32} {J J' : Nat → Nat → Int64} {R : Nat → Nat → Option Nat} {t : Nat} {N : sp_N} {Q Q' S : sp_Q} {U : sp_U} {V : sp_V}
/-- how the reference's net begins -/
def hs_Sm (I : Nat → Nat → Int32) (N : sp_N) (S : sp_Q) : Prop := (∀ k, k < N.1 → I 194 (7 + 4 * k) = qS S k) ∧ (∀ p, p < N.2.1 → I 194 (40 + 2 * p) = qW S p ∧ I 194 (41 + 2 * p) = qP S p) ∧ (∀ p, qH S p = 0) ∧ qT S = 0
theorem up_0 {f : Nat → Int32} {a j : Nat} (h : j ≠ a → f j = 0) : va_up f a 0 j = 0 := by
  unfold va_up
  by_cases e : j = a
  · rw [if_pos e]
  · rw [if_neg e]; exact h e
theorem q_M_starts {b : Nat} {x : Int32} (hM : hs_M R) (hn : I 194 0 = nI N.1) (n8 : N.1 ≤ 8) (hnp : I 194 3 = nI N.2.1) (n4 : N.2.1 ≤ 4) (hS : hs_Sm I N S) (hw : hs_Qw N.1 N.2.1 S) (hb : b ≤ 1034) (hx : x = nI b) : hn_F 1 hm_M_starts [.ref 188, .int x] (I, J, R) (fun r D' => r = none ∧ hs_fr I J R D' (fun c => c = 204) ∧ (∀ j, ¬ (b ≤ j ∧ j < b + 21) → D'.1 204 j = I 204 j) ∧ hs_Qm D'.1 b S) := by
  subst hx
  obtain ⟨m1, m4, m5, m6, m9, m10, m11, m12, m14, m15, m16, m17, m20, m21, m22, m23, m25, m27, m28, m29, m30, m31, m32⟩ := id hM
  obtain ⟨s1, s2, s3, s4⟩ := hS
  obtain ⟨w1, w2, w3, w4, w5, w6, w7, w8, w9⟩ := hw
  refine hn_F_of _ hk_M_starts rfl (Nat.le_of_ble_eq_true rfl) ?_
  obtain ⟨P, hPd⟩ : ∃ P : Option Value → hnD → Prop, P = (fun r D' => r = none ∧ hs_fr I J R D' (fun c => c = 204) ∧ (∀ j, ¬ (b ≤ j ∧ j < b + 21) → D'.1 204 j = I 204 j) ∧ hs_Qm D'.1 b S) := ⟨_, rfl⟩
  rw [← hPd]
  have i21 : nI 21 = 21 := by decide
  have L3 : ∀ I' : Nat → Nat → Int32, (∀ c, c ≠ 204 → I' c = I c) → (∀ j, ¬ (b ≤ j ∧ j < b + 21) → I' 204 j = I 204 j) → (∀ k, k < 8 → I' 204 (b + 1 + k) = qS S k) → (∀ j, b + 17 ≤ j → j < b + 21 → I' 204 j = 0) → I' 204 b = 0 → (∀ i, i < 0 → I' 204 (b + 9 + i) = qW S i ∧ I' 204 (b + 13 + i) = qP S i) → hn_B 1 hm_M_starts P 57 [.ref 188, .int (nI b), .int (nI 0)] [] (I', J, R) := by
    refine sp_ind 4 (fun p => ∀ I' : Nat → Nat → Int32, (∀ c, c ≠ 204 → I' c = I c) → (∀ j, ¬ (b ≤ j ∧ j < b + 21) → I' 204 j = I 204 j) → (∀ k, k < 8 → I' 204 (b + 1 + k) = qS S k) → (∀ j, b + 17 ≤ j → j < b + 21 → I' 204 j = 0) → I' 204 b = 0 → (∀ i, i < p → I' 204 (b + 9 + i) = qW S i ∧ I' 204 (b + 13 + i) = qP S i) → hn_B 1 hm_M_starts P 57 [.ref 188, .int (nI b), .int (nI p)] [] (I', J, R)) ?_ ?_
    · intro I' e1 e2 e3 e4 e5 e6
      refine b_iload_n rfl rfl ?_
      refine b_iconst rfl ?_
      refine b_icmp_ge rfl (fun c_59 => ?_) (fun c_59 => ?_)
      · exact b_return_ rfl trivial ((by rw [hPd]; exact ⟨rfl, ⟨rfl, rfl, e1⟩, e2, ⟨hb, e3, fun p hp => (e6 p hp).1, fun p hp => (e6 p hp).2, fun p hp => by rw [s3 p]; exact e4 _ (by omega) (by omega)⟩, e5.trans s4.symm⟩))
      · exact absurd (show (4 : Int32) ≤ nI 4 by decide) c_59
    · intro p hp ih I' e1 e2 e3 e4 e5 e6
      have e194 : I' 194 = I 194 := e1 194 (by omega)
      have fin : ∀ (v1 v2 : Int32), v1 = qW S p → v2 = qP S p → hn_B 1 hm_M_starts P 57 [.ref 188, .int (nI b), .int (nI p + 1)] [] (hn_u (hn_u I' 204 (b + 9 + p) v1) 204 (b + 13 + p) v2, J, R) := by
        intro v1 v2 h1 h2
        have en : ∀ j, j ≠ b + 9 + p → j ≠ b + 13 + p → hn_u (hn_u I' 204 (b + 9 + p) v1) 204 (b + 13 + p) v2 204 j = I' 204 j := fun j h3 h4 => by rw [hn_u_eq, va_up, if_neg h4, hn_u_eq, va_up, if_neg h3]
        refine b_eq (ih (hn_u (hn_u I' 204 (b + 9 + p) v1) 204 (b + 13 + p) v2) (fun c hc => by rw [hn_u_ne _ _ _ hc, hn_u_ne _ _ _ hc]; exact e1 c hc) (fun j hj => by rw [en j (by omega) (by omega)]; exact e2 j hj) (fun k hk => by rw [en _ (by omega) (by omega)]; exact e3 k hk) (fun j h3 h4 => by rw [en j (by omega) (by omega)]; exact e4 j h3 h4) (by rw [en b (by omega) (by omega)]; exact e5) (fun i hi => ?_)) (by rw [nI_succ]) rfl rfl
        by_cases e : i = p
        · subst e
          exact ⟨by rw [hn_u_eq, va_up, if_neg (by omega), hn_u_eq, va_up, if_pos rfl]; exact h1, by rw [hn_u_eq, va_up, if_pos rfl]; exact h2⟩
        · rw [en _ (by omega) (by omega), en _ (by omega) (by omega)]; exact e6 i (by omega)
      by_cases hpp : p < N.2.1
      · refine b_iload_n rfl rfl ?_
        refine b_iconst rfl ?_
        refine b_icmp_ge rfl (fun c_59 => ?_) (fun c_59 => ?_)
        · exact absurd c_59 (nI_ge (b := 4) hp (by omega))
        · refine b_aload_n rfl rfl ?_
          refine b_getR rfl (by first | rfl | assumption) rfl (by assumption) ?_
          refine b_iload_n rfl rfl ?_
          refine b_bipush rfl ?_
          refine b_iadd rfl ?_
          refine b_iload_n rfl rfl ?_
          refine b_iadd rfl ?_
          refine b_iload_n rfl rfl ?_
          refine b_aload_n rfl rfl ?_
          refine b_callV rfl rfl hk_M_persons rfl rfl rfl (by first | rfl | assumption) rfl (Nat.le_of_ble_eq_true rfl) (q_M_persons hM (by rw [e194]; exact hnp)) (Nat.le_of_ble_eq_true rfl) (fun r_74 D_74 q_74 => ?_)
          obtain ⟨rfl, rfl⟩ := q_74
          refine b_icmp_ge rfl (fun c_77 => ?_) (fun c_77 => ?_)
          · exact absurd c_77 (nI_ge hpp (by omega))
          · refine b_aload_n rfl rfl ?_
            refine b_getR rfl (by first | rfl | assumption) rfl (by assumption) ?_
            refine b_bipush rfl ?_
            refine b_iconst rfl ?_
            refine b_iload_n rfl rfl ?_
            refine b_imul rfl ?_
            refine b_iadd rfl ?_
            refine b_iaload rfl (by first | rfl | assumption) (hi_ix (40 + 2 * p) (by rw [nI_ad, nI_ml]; rfl) (by omega)) (by omega) ?_
            rw [e194, (s2 p hpp).1]
            refine b_goto rfl ?_
            refine b_iastore rfl (by first | rfl | assumption) (hi_ix (b + 9 + p) (by rw [nI_ad, nI_ad]; rfl) (by omega)) (by omega) ?_
            refine b_aload_n rfl rfl ?_
            refine b_getR rfl (by first | rfl | assumption) rfl (by assumption) ?_
            refine b_iload_n rfl rfl ?_
            refine b_bipush rfl ?_
            refine b_iadd rfl ?_
            refine b_iload_n rfl rfl ?_
            refine b_iadd rfl ?_
            refine b_iload_n rfl rfl ?_
            refine b_aload_n rfl rfl ?_
            refine b_callV rfl rfl hk_M_persons rfl rfl rfl (by first | rfl | assumption) rfl (Nat.le_of_ble_eq_true rfl) (q_M_persons hM (by rw [hn_u_ne _ _ _ (by omega), e194]; exact hnp)) (Nat.le_of_ble_eq_true rfl) (fun r_108 D_108 q_108 => ?_)
            obtain ⟨rfl, rfl⟩ := q_108
            refine b_icmp_ge rfl (fun c_111 => ?_) (fun c_111 => ?_)
            · exact absurd c_111 (nI_ge hpp (by omega))
            · refine b_aload_n rfl rfl ?_
              refine b_getR rfl (by first | rfl | assumption) rfl (by assumption) ?_
              refine b_bipush rfl ?_
              refine b_iconst rfl ?_
              refine b_iload_n rfl rfl ?_
              refine b_imul rfl ?_
              refine b_iadd rfl ?_
              refine b_iconst rfl ?_
              refine b_iadd rfl ?_
              refine b_iaload rfl (by first | rfl | assumption) (hi_ix (40 + 2 * p + 1) (by rw [nI_ad (40 + 2 * p), nI_ad, nI_ml]; rfl) (by omega)) (by omega) ?_
              rw [hn_u_ne _ _ _ (show 194 ≠ 204 by omega), e194, show 40 + 2 * p + 1 = 41 + 2 * p by omega, (s2 p hpp).2]
              refine b_goto rfl ?_
              refine b_iastore rfl (by first | rfl | assumption) (hi_ix (b + 13 + p) (by rw [nI_ad, nI_ad]; rfl) (by omega)) (by omega) ?_
              refine b_iinc rfl rfl (Nat.le_of_ble_eq_true rfl) ?_
              refine b_goto rfl ?_
              exact fin _ _ rfl rfl
      · refine b_iload_n rfl rfl ?_
        refine b_iconst rfl ?_
        refine b_icmp_ge rfl (fun c_59 => ?_) (fun c_59 => ?_)
        · exact absurd c_59 (nI_ge (b := 4) hp (by omega))
        · refine b_aload_n rfl rfl ?_
          refine b_getR rfl (by first | rfl | assumption) rfl (by assumption) ?_
          refine b_iload_n rfl rfl ?_
          refine b_bipush rfl ?_
          refine b_iadd rfl ?_
          refine b_iload_n rfl rfl ?_
          refine b_iadd rfl ?_
          refine b_iload_n rfl rfl ?_
          refine b_aload_n rfl rfl ?_
          refine b_callV rfl rfl hk_M_persons rfl rfl rfl (by first | rfl | assumption) rfl (Nat.le_of_ble_eq_true rfl) (q_M_persons hM (by rw [e194]; exact hnp)) (Nat.le_of_ble_eq_true rfl) (fun r_74 D_74 q_74 => ?_)
          obtain ⟨rfl, rfl⟩ := q_74
          refine b_icmp_ge rfl (fun c_77 => ?_) (fun c_77 => ?_)
          · refine b_iconst rfl ?_
            refine b_iastore rfl (by first | rfl | assumption) (hi_ix (b + 9 + p) (by rw [nI_ad, nI_ad]; rfl) (by omega)) (by omega) ?_
            refine b_aload_n rfl rfl ?_
            refine b_getR rfl (by first | rfl | assumption) rfl (by assumption) ?_
            refine b_iload_n rfl rfl ?_
            refine b_bipush rfl ?_
            refine b_iadd rfl ?_
            refine b_iload_n rfl rfl ?_
            refine b_iadd rfl ?_
            refine b_iload_n rfl rfl ?_
            refine b_aload_n rfl rfl ?_
            refine b_callV rfl rfl hk_M_persons rfl rfl rfl (by first | rfl | assumption) rfl (Nat.le_of_ble_eq_true rfl) (q_M_persons hM (by rw [hn_u_ne _ _ _ (by omega), e194]; exact hnp)) (Nat.le_of_ble_eq_true rfl) (fun r_108 D_108 q_108 => ?_)
            obtain ⟨rfl, rfl⟩ := q_108
            refine b_icmp_ge rfl (fun c_111 => ?_) (fun c_111 => ?_)
            · refine b_iconst rfl ?_
              refine b_iastore rfl (by first | rfl | assumption) (hi_ix (b + 13 + p) (by rw [nI_ad, nI_ad]; rfl) (by omega)) (by omega) ?_
              refine b_iinc rfl rfl (Nat.le_of_ble_eq_true rfl) ?_
              refine b_goto rfl ?_
              exact fin _ _ (w6 p (by omega)).symm (w7 p (by omega) hp).symm
            · exact absurd (nI_le (by omega) (by omega)) c_111
          · exact absurd (nI_le (by omega) (by omega)) c_77
  have L2 : ∀ I' : Nat → Nat → Int32, (∀ c, c ≠ 204 → I' c = I c) → (∀ j, ¬ (b ≤ j ∧ j < b + 21) → I' 204 j = I 204 j) → (∀ k, k < 0 → I' 204 (b + 1 + k) = qS S k) → (∀ j, b ≤ j → j < b + 21 → ¬ (b + 1 ≤ j ∧ j < b + 1 + 0) → I' 204 j = 0) → hn_B 1 hm_M_starts P 25 [.ref 188, .int (nI b), .int (nI 0)] [] (I', J, R) := by
    refine sp_ind N.1 (fun k => ∀ I' : Nat → Nat → Int32, (∀ c, c ≠ 204 → I' c = I c) → (∀ j, ¬ (b ≤ j ∧ j < b + 21) → I' 204 j = I 204 j) → (∀ i, i < k → I' 204 (b + 1 + i) = qS S i) → (∀ j, b ≤ j → j < b + 21 → ¬ (b + 1 ≤ j ∧ j < b + 1 + k) → I' 204 j = 0) → hn_B 1 hm_M_starts P 25 [.ref 188, .int (nI b), .int (nI k)] [] (I', J, R)) ?_ ?_
    · intro I' e1 e2 e3 e4
      have e3' : ∀ k, k < 8 → I' 204 (b + 1 + k) = qS S k := by
        intro k hk
        by_cases h : k < N.1
        · exact e3 k h
        · rw [e4 _ (by omega) (by omega) (by omega), w3 k (by omega)]
      refine b_iload_n rfl rfl ?_
      refine b_aload_n rfl rfl ?_
      refine b_callV rfl rfl hk_M_knots rfl rfl rfl (by first | rfl | assumption) rfl (Nat.le_of_ble_eq_true rfl) (q_M_knots hM (by rw [e1 194 (by omega)]; exact hn)) (Nat.le_of_ble_eq_true rfl) (fun r_27 D_27 q_27 => ?_)
      obtain ⟨rfl, rfl⟩ := q_27
      refine b_icmp_ge rfl (fun c_30 => ?_) (fun c_30 => ?_)
      · refine b_iconst rfl ?_
        refine b_istore_n rfl (Nat.le_of_ble_eq_true rfl) ?_
        exact b_eq (L3 I' e1 e2 e3' (fun j h1 h2 => e4 j (by omega) (by omega) (by omega)) (e4 b (by omega) (by omega) (by omega)) (fun i hi => absurd hi (by omega))) (by rw [nI_0]; rfl) rfl rfl
      · exact absurd (nI_le (Nat.le_refl _) (by omega)) c_30
    · intro k hk ih I' e1 e2 e3 e4
      have hst : ∀ i, i < k + 1 → hn_u I' 204 (b + 1 + k) (qS S k) 204 (b + 1 + i) = qS S i := by
        intro i hi
        rw [hn_u_eq]
        unfold va_up
        by_cases e : i = k
        · rw [if_pos (by omega), e]
        · rw [if_neg (by omega)]; exact e3 i (by omega)
      refine b_iload_n rfl rfl ?_
      refine b_aload_n rfl rfl ?_
      refine b_callV rfl rfl hk_M_knots rfl rfl rfl (by first | rfl | assumption) rfl (Nat.le_of_ble_eq_true rfl) (q_M_knots hM (by rw [e1 194 (by omega)]; exact hn)) (Nat.le_of_ble_eq_true rfl) (fun r_27 D_27 q_27 => ?_)
      obtain ⟨rfl, rfl⟩ := q_27
      refine b_icmp_ge rfl (fun c_30 => ?_) (fun c_30 => ?_)
      · exact absurd c_30 (nI_ge hk (by omega))
      · refine b_aload_n rfl rfl ?_
        refine b_getR rfl (by first | rfl | assumption) rfl (by assumption) ?_
        refine b_iload_n rfl rfl ?_
        refine b_iconst rfl ?_
        refine b_iadd rfl ?_
        refine b_iload_n rfl rfl ?_
        refine b_iadd rfl ?_
        refine b_aload_n rfl rfl ?_
        refine b_iload_n rfl rfl ?_
        refine b_iconst rfl ?_
        refine b_callV rfl rfl hk_M_knotOf rfl rfl rfl (by first | rfl | assumption) rfl (Nat.le_of_ble_eq_true rfl) (q_M_knotOf (w := 2) hM (show k < 8 by omega) rfl (by omega)) (Nat.le_of_ble_eq_true rfl) (fun r_45 D_45 q_45 => ?_)
        obtain ⟨rfl, rfl⟩ := q_45
        rw [e1 194 (by omega), show 5 + 4 * k + 2 = 7 + 4 * k by omega, s1 k hk]
        refine b_iastore rfl (by first | rfl | assumption) (hi_ix (b + 1 + k) (by rw [nI_ad, nI_ad]; rfl) (by omega)) (by omega) ?_
        refine b_iinc rfl rfl (Nat.le_of_ble_eq_true rfl) ?_
        refine b_goto rfl ?_
        exact b_eq (ih (hn_u I' 204 (b + 1 + k) (qS S k)) (fun c hc => by rw [hn_u_ne _ _ _ hc]; exact e1 c hc) (fun j hj => by rw [hn_u_eq, va_up, if_neg (by omega)]; exact e2 j hj) hst (fun j h1 h2 h3 => by rw [hn_u_eq, va_up, if_neg (by omega)]; exact e4 j h1 h2 (by omega))) (by rw [nI_succ]; rfl) rfl rfl
  have L1 : ∀ I' : Nat → Nat → Int32, (∀ c, c ≠ 204 → I' c = I c) → (∀ j, ¬ (b ≤ j ∧ j < b + 21) → I' 204 j = I 204 j) → (∀ j, b ≤ j → j < b + 0 → I' 204 j = 0) → hn_B 1 hm_M_starts P 2 [.ref 188, .int (nI b), .int (nI 0)] [] (I', J, R) := by
    refine sp_ind 21 (fun k => ∀ I' : Nat → Nat → Int32, (∀ c, c ≠ 204 → I' c = I c) → (∀ j, ¬ (b ≤ j ∧ j < b + 21) → I' 204 j = I 204 j) → (∀ j, b ≤ j → j < b + k → I' 204 j = 0) → hn_B 1 hm_M_starts P 2 [.ref 188, .int (nI b), .int (nI k)] [] (I', J, R)) ?_ ?_
    · intro I' e1 e2 e3
      refine b_iload_n rfl rfl ?_
      refine b_bipush rfl ?_
      refine b_icmp_ge rfl (fun c_5 => ?_) (fun c_5 => ?_)
      · refine b_iconst rfl ?_
        refine b_istore_n rfl (Nat.le_of_ble_eq_true rfl) ?_
        exact b_eq (L2 I' e1 e2 (fun k hk => absurd hk (by omega)) (fun j h1 h2 _ => e3 j h1 h2)) (by rw [nI_0]; rfl) rfl rfl
      · exact absurd (show (21 : Int32) ≤ nI 21 by decide) c_5
    · intro k hk ih I' e1 e2 e3
      refine b_iload_n rfl rfl ?_
      refine b_bipush rfl ?_
      refine b_icmp_ge rfl (fun c_5 => ?_) (fun c_5 => ?_)
      · exact absurd (show nI 21 ≤ nI k by rw [i21]; exact c_5) (nI_ge hk (by omega))
      · refine b_aload_n rfl rfl ?_
        refine b_getR rfl (by first | rfl | assumption) rfl (by assumption) ?_
        refine b_iload_n rfl rfl ?_
        refine b_iload_n rfl rfl ?_
        refine b_iadd rfl ?_
        refine b_iconst rfl ?_
        refine b_iastore rfl (by first | rfl | assumption) (hi_ix (b + k) (by rw [nI_ad]) (by omega)) (by omega) ?_
        refine b_iinc rfl rfl (Nat.le_of_ble_eq_true rfl) ?_
        refine b_goto rfl ?_
        exact b_eq (ih (hn_u I' 204 (b + k) 0) (fun c hc => by rw [hn_u_ne _ _ _ hc]; exact e1 c hc) (fun j hj => by rw [hn_u_eq, va_up, if_neg (by omega)]; exact e2 j hj) (fun j h1 h2 => by rw [hn_u_eq]; exact up_0 (fun h => e3 j h1 (by omega)))) (by rw [nI_succ]; rfl) rfl rfl
  refine b_iconst rfl ?_
  refine b_istore_n rfl (Nat.le_of_ble_eq_true rfl) ?_
  exact b_eq (L1 I (fun _ _ => rfl) (fun _ _ => rfl) (fun j h1 h2 => absurd h2 (by omega))) (by rw [nI_0]; rfl) rfl rfl
theorem qm_tg {q : sp_Q} {x : Int32} {b p k : Nat} (hB : hs_B I R N Q) (hs : hs_sm I J R (I', J', R)) (hb : 987 ≤ b) (h : hs_Qm I' b q) (hw : hs_Qw N.1 N.2.1 q) (hp : p < N.2.1) (hk : k < N.1) (hc : sp_cn q p k) (hx : x = nI b) : hn_F 3 hm_M_shifts [.ref 188, .int x, .int (nI p), .int (nI k)] (I', J', R) (fun r D' => (∃ I2, D' = (I2, J', R) ∧ hs_sm I J R (I2, J', R) ∧ hs_Qm I2 b (sp_sh N 0 q p k)) ∧ r = some (.int (if sp_shf N 0 q p k then 1 else 0))) := by
  obtain ⟨hR, hN, hQ, hfm, hw2, hAw⟩ := hs_B_sm hB hs
  have n8 := hN.1.2.1
  have n4 := hN.1.2.2.2.1
  have hne : ¬ qP q p = nI k := by
    intro e
    have hb9 := hc.2
    rw [e, nI_clamp (by omega)] at hb9
    exact hw.2.2.2.1 k (by omega) hb9
  refine (qm_go (hs_M_of hR) hN h hfm (show p < 4 by omega) hk hne hx).mono (fun r D' g => ?_)
  obtain ⟨hf, g1, g2, g3⟩ := g
  obtain ⟨I2, rfl, hI2⟩ := hf.out
  obtain ⟨s1, s2, s3, s4, s5⟩ := hs
  exact ⟨⟨I2, rfl, ⟨rfl, fun c hc => by show I2 c = I c; rw [hI2 c (fun e => hc (by unfold hs_m3 at e; omega))]; exact s2 c hc, fun j hj => by show I2 188 j = _; rw [hI2 188 (by omega)]; exact s3 j hj, fun j hj => (g1 j (by omega)).trans (s4 j hj), s5⟩, g2⟩, g3⟩
theorem hs_sm_u {b : Nat} {v : Int32} (hs : hs_sm I J R (I', J', R)) (hb : 987 ≤ b) : hs_sm I J R (hn_u I' 204 b v, J', R) := by
  obtain ⟨s1, s2, s3, s4, s5⟩ := hs
  refine ⟨rfl, fun c hc => ?_, fun j hj => ?_, fun j hj => ?_, s5⟩
  · show hn_u I' 204 b v c = I c
    rw [hn_u_ne _ _ _ (fun e => hc (by omega))]; exact s2 c hc
  · show hn_u I' 204 b v 188 j = I 188 j
    rw [hn_u_ne _ _ _ (by omega)]; exact s3 j hj
  · show hn_u I' 204 b v 204 j = I 204 j
    rw [hn_u_eq, va_up, if_neg (by omega)]; exact s4 j hj
theorem hi_nlt0 (n : Nat) (h : n < 2147483648) : (0 : Int32) ≤ nI n := by
  rw [Int32.le_iff_toInt_le, nI_toInt (by omega), hi_t0]; omega
theorem nI_40 : nI 40 = 40 := by decide
theorem jd_wl {L : sp_L} : ∀ i, i ≤ 2147483647 → ((jd N S L i).2.1 = -1 ∨ 0 ≤ (jd N S L i).2.1) ∧ ((jd N S L i).2.2 = -1 ∨ 0 ≤ (jd N S L i).2.2)
  | 0, _ => ⟨Or.inl rfl, Or.inl rfl⟩
  | i + 1, hi => by
    have ih := jd_wl (L := L) i (by omega)
    have h1 : (jd N S L (i + 1)).2.1 = if (jd_step N (L.2 i) (jd N S L i).1).2 = 1 ∧ (jd N S L i).2.1 = -1 then nI i else (jd N S L i).2.1 := rfl
    have h2 : (jd N S L (i + 1)).2.2 = if (jd_step N (L.2 i) (jd N S L i).1).2 = 2 ∧ (jd N S L i).2.2 = -1 then nI i else (jd N S L i).2.2 := rfl
    rw [h1, h2]
    refine ⟨?_, ?_⟩
    · split
      · exact Or.inr (hi_nlt0 i (by omega))
      · exact ih.1
    · split
      · exact Or.inr (hi_nlt0 i (by omega))
      · exact ih.2
theorem hi_m1 : ¬ (0 : Int32) ≤ -1 := by decide
set_option maxHeartbeats 8000000 in
theorem q_M_judged {w : Int32} {L : sp_L} (hB : hs_B I R N Q) (hS : hs_Sm I N S) (hSw : hs_Qw N.1 N.2.1 S) (hL : hs_Lm I L) (hL4 : L.1 ≤ 40) (hLw : hs_Lw N.1 N.2.1 L) : hn_F 5 hm_M_judged [.ref 188, .int w] (I, J, R) (fun r D' => hs_sm I J R D' ∧ r = some (.int (v_judged N S L w))) := by
  have hR9 := hB.1
  have hM9 := hs_M_of hR9
  obtain ⟨m1, m4, m5, m6, m9, m10, m11, m12, m14, m15, m16, m17, m20, m21, m22, m23, m25, m27, m28, m29, m30, m31, m32⟩ := id hM9
  have n8 : N.1 ≤ 8 := hB.2.1.1.2.1
  have n4 : N.2.1 ≤ 4 := hB.2.1.1.2.2.2.1
  refine hn_F_of _ hk_M_judged rfl (Nat.le_of_ble_eq_true rfl) ?_
  have t2 : (2 : Int32).toInt = 2 := rfl
  by_cases hw9 : (0 : Int32).toInt ≤ w.toInt ∧ w.toInt ≤ (2 : Int32).toInt
  · obtain ⟨P, hPd⟩ : ∃ P : Option Value → hnD → Prop, P = (fun r D' => hs_sm I J R D' ∧ r = some (.int (v_judged N S L w))) := ⟨_, rfl⟩
    rw [← hPd]
    have lp : ∀ I', hs_sm I J R (I', J, R) → hs_Qm I' 987 (jd N S L 0).1 → hn_B 5 hm_M_judged P 31 [.ref 188, .int w, .int (jd N S L 0).2.1, .int (jd N S L 0).2.2, .int (nI 0), .null, .null, .null, .null, .null] [] (I', J, R) := by
      refine sp_ind L.1 (fun i => ∀ I', hs_sm I J R (I', J, R) → hs_Qm I' 987 (jd N S L i).1 → hn_B 5 hm_M_judged P 31 [.ref 188, .int w, .int (jd N S L i).2.1, .int (jd N S L i).2.2, .int (nI i), .null, .null, .null, .null, .null] [] (I', J, R)) ?_ ?_
      · intro I' h g
        have e201 : I' 201 = I 201 := h.2.1 201 (by unfold hs_ms; omega)
        have hB' := hs_B_sm hB h
        have hqw := jd_w hLw n8 n4 hSw L.1 (Nat.le_refl _)
        refine b_iload rfl rfl ?_
        refine b_aload_n rfl rfl ?_
        refine b_getR rfl (by first | rfl | assumption) rfl (by assumption) ?_
        refine b_iconst rfl ?_
        refine b_iaload rfl (by first | rfl | assumption) (by first | assumption | exact nI_toInt (by omega) | exact hi_l0 | exact hi_l1 | exact hi_l2 | exact hi_l3 | exact hi_l4 | exact hi_l5 | exact hi_l6) (by omega) ?_
        rw [e201, hL.1]
        refine b_icmp_ge rfl (fun c_39 => ?_) (fun c_39 => ?_)
        · refine b_iload_n rfl rfl ?_
          refine b_if_ne rfl (fun c_310 => ?_) (fun c_310 => ?_)
          · refine b_iload_n rfl rfl ?_
            refine b_iconst rfl ?_
            refine b_icmp_ne rfl (fun c_319 => ?_) (fun c_319 => ?_)
            · refine b_aload_n rfl rfl ?_
              refine b_sipush rfl ?_
              refine b_callV rfl rfl hk_M_lying rfl rfl rfl (by first | rfl | assumption) rfl (Nat.le_of_ble_eq_true rfl) (q_M_lying hM9 g.1 n8 hqw.1 hB'.2.1.1.2.2.1 n4 rfl) (Nat.le_of_ble_eq_true rfl) (fun r_330 D_330 q_330 => ?_)
              obtain ⟨rfl, rfl⟩ := q_330
              refine b_aload_n rfl rfl ?_
              refine b_sipush rfl ?_
              refine b_callV rfl rfl hk_M_awake rfl rfl rfl (by first | rfl | assumption) rfl (Nat.le_of_ble_eq_true rfl) (q_M_awake hM9 g.1 n8 hqw.1 hB'.2.1.1.2.2.1 n4 rfl) (Nat.le_of_ble_eq_true rfl) (fun r_337 D_337 q_337 => ?_)
              obtain ⟨rfl, rfl⟩ := q_337
              refine b_iconst rfl ?_
              refine b_ixor rfl ?_
              refine b_iand rfl ?_
              refine b_callS rfl rfl hk_M_bits rfl rfl rfl (Nat.le_of_ble_eq_true rfl) (q_M_bits) (Nat.le_of_ble_eq_true rfl) (fun r_343 D_343 q_343 => ?_)
              obtain ⟨rfl, rfl⟩ := q_343
              exact b_ireturn rfl trivial ((by rw [hPd]; first | exact ⟨h, by rw [v_judged, if_pos c_310]⟩ | exact ⟨h, by rw [v_judged, if_neg c_310, if_pos c_319]⟩ | exact ⟨h, by rw [v_judged, if_neg c_310, if_neg c_319, if_pos (hi_eq (x := w) (y := 2) (by have h1 : ¬ w.toInt = 0 := (fun z => c_310 (hi_eq z)); have h2 : ¬ w.toInt = 1 := (fun z => c_319 (hi_eq z)); rw [hi_t0, t2] at hw9; rw [t2]; omega))]; rfl⟩))
            · refine b_iload_n rfl rfl ?_
              refine b_goto rfl ?_
              exact b_ireturn rfl trivial ((by rw [hPd]; first | exact ⟨h, by rw [v_judged, if_pos c_310]⟩ | exact ⟨h, by rw [v_judged, if_neg c_310, if_pos c_319]⟩ | exact ⟨h, by rw [v_judged, if_neg c_310, if_neg c_319, if_pos (hi_eq (x := w) (y := 2) (by have h1 : ¬ w.toInt = 0 := (fun z => c_310 (hi_eq z)); have h2 : ¬ w.toInt = 1 := (fun z => c_319 (hi_eq z)); rw [hi_t0, t2] at hw9; rw [t2]; omega))]; rfl⟩))
          · refine b_iload_n rfl rfl ?_
            refine b_goto rfl ?_
            exact b_ireturn rfl trivial ((by rw [hPd]; first | exact ⟨h, by rw [v_judged, if_pos c_310]⟩ | exact ⟨h, by rw [v_judged, if_neg c_310, if_pos c_319]⟩ | exact ⟨h, by rw [v_judged, if_neg c_310, if_neg c_319, if_pos (hi_eq (x := w) (y := 2) (by have h1 : ¬ w.toInt = 0 := (fun z => c_310 (hi_eq z)); have h2 : ¬ w.toInt = 1 := (fun z => c_319 (hi_eq z)); rw [hi_t0, t2] at hw9; rw [t2]; omega))]; rfl⟩))
        · exact absurd (nI_le (Nat.le_refl _) (by omega)) c_39
      · intro i hi ih I' h g
        have e201 : I' 201 = I 201 := h.2.1 201 (by unfold hs_ms; omega)
        have hB' := hs_B_sm hB h
        have hqw := jd_w hLw n8 n4 hSw i (by omega)
        have hwl := jd_wl (N := N) (S := S) (L := L) i (by omega)
        have hs : jd N S L (i + 1) = ((jd_step N (L.2 i) (jd N S L i).1).1, if (jd_step N (L.2 i) (jd N S L i).1).2 = 1 ∧ (jd N S L i).2.1 = -1 then nI i else (jd N S L i).2.1, if (jd_step N (L.2 i) (jd N S L i).1).2 = 2 ∧ (jd N S L i).2.2 = -1 then nI i else (jd N S L i).2.2) := rfl
        rw [hs] at ih
        obtain ⟨la, lf, ls⟩ := hL.2 i hi
        obtain ⟨w1, w2, w3, w4⟩ := hLw i hi
        generalize L.2 i = ln at la lf ls w1 w2 w3 w4 ih
        generalize (jd N S L i).1 = q at ih hqw g
        generalize (jd N S L i).2.1 = w0 at ih hwl ⊢
        generalize (jd N S L i).2.2 = f0 at ih hwl ⊢
        obtain ⟨hw0, hf0⟩ := hwl
        obtain ⟨a, f, s⟩ := ln
        simp only at la lf ls w1 w2 w3 w4
        have i1 : (1 : Int32) + 3 * nI i = nI (1 + 3 * i) := by rw [nI_ad, nI_ml]; rfl
        have i2 : (2 : Int32) + 3 * nI i = nI (2 + 3 * i) := by rw [nI_ad, nI_ml]; rfl
        have i3 : (3 : Int32) + 3 * nI i = nI (3 + 3 * i) := by rw [nI_ad, nI_ml]; rfl
        have T287 : ∀ (I2 : Nat → Nat → Int32) (o : sp_Q × Nat) (v2 v5 v6 v7 v8 v9 : Int32), hs_sm I J R (I2, J, R) → hs_Qm I2 987 o.1 → o = jd_step N (a, f, s) q → v2 = (if o.2 = 1 ∧ w0 = -1 then nI i else w0) → v9 = (if o.2 = 2 then 1 else 0) → hn_B 5 hm_M_judged P 287 [.ref 188, .int w, .int v2, .int f0, .int (nI i), .int v5, .int v6, .int v7, .int v8, .int v9] [] (I2, J, R) := by
          intro I2 o v2 v5 v6 v7 v8 v9 h2 g2 ho hv2 hv9
          rw [← ho, ← hv2] at ih
          by_cases o2 : o.2 = 2
          · rw [if_pos o2] at hv9
            by_cases hf1 : f0 = -1
            · rw [if_pos ⟨o2, hf1⟩] at ih
              subst hv9 hf1
              refine b_iload rfl rfl ?_
              refine b_if_eq rfl (fun c_289 => ?_) (fun c_289 => ?_)
              · exact absurd c_289 (by decide)
              · refine b_iload_n rfl rfl ?_
                refine b_if_ge rfl (fun c_293 => ?_) (fun c_293 => ?_)
                · exact absurd c_293 hi_m1
                · refine b_iload rfl rfl ?_
                  refine b_goto rfl ?_
                  refine b_istore_n rfl (Nat.le_of_ble_eq_true rfl) ?_
                  refine b_iinc rfl rfl (Nat.le_of_ble_eq_true rfl) ?_
                  refine b_goto rfl ?_
                  exact b_lp (ih I2 h2 g2) (le_e (le_e (le_e (le_e (le_q (by rw [nI_succ]) (le_n (le_n (le_n (le_n (le_n le_0)))))))))) rfl rfl
            · rw [if_neg (fun z => hf1 z.2)] at ih
              have hf2 := hf0.resolve_left hf1
              subst hv9
              refine b_iload rfl rfl ?_
              refine b_if_eq rfl (fun c_289 => ?_) (fun c_289 => ?_)
              · exact absurd c_289 (by decide)
              · refine b_iload_n rfl rfl ?_
                refine b_if_ge rfl (fun c_293 => ?_) (fun c_293 => ?_)
                · refine b_iload_n rfl rfl ?_
                  refine b_istore_n rfl (Nat.le_of_ble_eq_true rfl) ?_
                  refine b_iinc rfl rfl (Nat.le_of_ble_eq_true rfl) ?_
                  refine b_goto rfl ?_
                  exact b_lp (ih I2 h2 g2) (le_e (le_e (le_e (le_e (le_q (by rw [nI_succ]) (le_n (le_n (le_n (le_n (le_n le_0)))))))))) rfl rfl
                · exact absurd hf2 c_293
          · rw [if_neg o2] at hv9
            rw [if_neg (fun z => o2 z.1)] at ih
            subst hv9
            refine b_iload rfl rfl ?_
            refine b_if_eq rfl (fun c_289 => ?_) (fun c_289 => ?_)
            · refine b_iload_n rfl rfl ?_
              refine b_istore_n rfl (Nat.le_of_ble_eq_true rfl) ?_
              refine b_iinc rfl rfl (Nat.le_of_ble_eq_true rfl) ?_
              refine b_goto rfl ?_
              exact b_lp (ih I2 h2 g2) (le_e (le_e (le_e (le_e (le_q (by rw [nI_succ]) (le_n (le_n (le_n (le_n (le_n le_0)))))))))) rfl rfl
            · exact absurd rfl c_289
        rcases (show a = 0 ∨ a = 1 ∨ a = 2 ∨ a = 3 ∨ a = 4 by omega) with rfl | rfl | rfl | rfl | rfl
        · have hj : jd_step N (0, f, s) q = ((sp_hr N 0 (-1) q).1, if (sp_hr N 0 (-1) q).2 = 0 then 0 else 2) := if_pos rfl
          refine b_iload rfl rfl ?_
          refine b_aload_n rfl rfl ?_
          refine b_getR rfl (by first | rfl | assumption) rfl (by assumption) ?_
          refine b_iconst rfl ?_
          refine b_iaload rfl (by first | rfl | assumption) (by first | assumption | exact nI_toInt (by omega) | exact hi_l0 | exact hi_l1 | exact hi_l2 | exact hi_l3 | exact hi_l4 | exact hi_l5 | exact hi_l6) (by omega) ?_
          rw [e201, hL.1]
          refine b_icmp_ge rfl (fun c_39 => ?_) (fun c_39 => ?_)
          · exact absurd c_39 (nI_ge hi (by omega))
          · refine b_aload_n rfl rfl ?_
            refine b_getR rfl (by first | rfl | assumption) rfl (by assumption) ?_
            refine b_iconst rfl ?_
            refine b_iconst rfl ?_
            refine b_iload rfl rfl ?_
            refine b_imul rfl ?_
            refine b_iadd rfl ?_
            refine b_iaload rfl (by first | rfl | assumption) (hi_ix (1 + 3 * i) i1 (by omega)) (by omega) ?_
            rw [e201, la]
            refine b_istore rfl (Nat.le_of_ble_eq_true rfl) ?_
            refine b_aload_n rfl rfl ?_
            refine b_getR rfl (by first | rfl | assumption) rfl (by assumption) ?_
            refine b_iconst rfl ?_
            refine b_iconst rfl ?_
            refine b_iload rfl rfl ?_
            refine b_imul rfl ?_
            refine b_iadd rfl ?_
            refine b_iaload rfl (by first | rfl | assumption) (hi_ix (2 + 3 * i) i2 (by omega)) (by omega) ?_
            refine b_istore rfl (Nat.le_of_ble_eq_true rfl) ?_
            refine b_aload_n rfl rfl ?_
            refine b_getR rfl (by first | rfl | assumption) rfl (by assumption) ?_
            refine b_iconst rfl ?_
            refine b_iconst rfl ?_
            refine b_iload rfl rfl ?_
            refine b_imul rfl ?_
            refine b_iadd rfl ?_
            refine b_iaload rfl (by first | rfl | assumption) (hi_ix (3 + 3 * i) i3 (by omega)) (by omega) ?_
            refine b_istore rfl (Nat.le_of_ble_eq_true rfl) ?_
            refine b_iload rfl rfl ?_
            refine b_if_eq rfl (fun c_83 => ?_) (fun c_83 => ?_)
            · refine b_iconst rfl ?_
              refine b_goto rfl ?_
              refine b_istore rfl (Nat.le_of_ble_eq_true rfl) ?_
              refine b_iload rfl rfl ?_
              refine b_if_ne rfl (fun c_157 => ?_) (fun c_157 => ?_)
              · refine b_iload_n rfl rfl ?_
                refine b_istore_n rfl (Nat.le_of_ble_eq_true rfl) ?_
                refine b_iconst rfl ?_
                refine b_istore rfl (Nat.le_of_ble_eq_true rfl) ?_
                refine b_iload rfl rfl ?_
                refine b_if_ne rfl (fun c_176 => ?_) (fun c_176 => ?_)
                · exact absurd (show nI 0 = 0 from rfl) c_176
                · refine b_aload_n rfl rfl ?_
                  refine b_sipush rfl ?_
                  refine b_iconst rfl ?_
                  refine b_callV rfl rfl hk_M_passes rfl rfl rfl (by first | rfl | assumption) rfl (Nat.le_of_ble_eq_true rfl) (qm_th (odd := -1) hB h (by omega) g hqw rfl) (Nat.le_of_ble_eq_true rfl) (fun r_184 D_184 q_184 => ?_)
                  obtain ⟨⟨I2, rfl, h2, g2, _⟩, rfl⟩ := q_184
                  refine b_if_eq rfl (fun c_187 => ?_) (fun c_187 => ?_)
                  · refine b_iconst rfl ?_
                    refine b_istore rfl (Nat.le_of_ble_eq_true rfl) ?_
                    refine b_goto rfl ?_
                    first | exact T287 I2 _ _ _ _ _ _ _ h2 g2 hj.symm (by rw [if_pos c_187]; exact (if_neg (show ¬ ((0 : Nat) = 1 ∧ w0 = -1) by omega)).symm) (by rw [if_pos c_187]; rfl) | exact T287 I2 _ _ _ _ _ _ _ h2 g2 hj.symm (by rw [if_neg c_187]; exact (if_neg (show ¬ ((2 : Nat) = 1 ∧ w0 = -1) by omega)).symm) (by rw [if_neg c_187]; rfl)
                  · refine b_iconst rfl ?_
                    refine b_goto rfl ?_
                    refine b_istore rfl (Nat.le_of_ble_eq_true rfl) ?_
                    refine b_goto rfl ?_
                    first | exact T287 I2 _ _ _ _ _ _ _ h2 g2 hj.symm (by rw [if_pos c_187]; exact (if_neg (show ¬ ((0 : Nat) = 1 ∧ w0 = -1) by omega)).symm) (by rw [if_pos c_187]; rfl) | exact T287 I2 _ _ _ _ _ _ _ h2 g2 hj.symm (by rw [if_neg c_187]; exact (if_neg (show ¬ ((2 : Nat) = 1 ∧ w0 = -1) by omega)).symm) (by rw [if_neg c_187]; rfl)
              · exact absurd c_157 (by decide)
            · exact absurd (show nI 0 = 0 from rfl) c_83
        · have hp := w2 (by omega)
          have hk := w4 (by unfold ln_1; omega)
          have lf := lf (by omega)
          have ls := ls (by unfold ln_1; omega)
          have hj : jd_step N (1, f, s) q = (if sp_cn q f s then (sp_sh N 0 q f s, if sp_shf N 0 q f s then 2 else 0) else (q, 1)) := by unfold jd_step; simp only; rw [if_neg (by omega), if_neg (by omega), if_pos trivial]
          have n1 : ¬ nI 1 = (0 : Int32) := by decide
          by_cases hc : sp_cn q f s
          · rw [if_pos hc] at hj
            refine b_iload rfl rfl ?_
            refine b_aload_n rfl rfl ?_
            refine b_getR rfl (by first | rfl | assumption) rfl (by assumption) ?_
            refine b_iconst rfl ?_
            refine b_iaload rfl (by first | rfl | assumption) (by first | assumption | exact nI_toInt (by omega) | exact hi_l0 | exact hi_l1 | exact hi_l2 | exact hi_l3 | exact hi_l4 | exact hi_l5 | exact hi_l6) (by omega) ?_
            rw [e201, hL.1]
            refine b_icmp_ge rfl (fun c_39 => ?_) (fun c_39 => ?_)
            · exact absurd c_39 (nI_ge hi (by omega))
            · refine b_aload_n rfl rfl ?_
              refine b_getR rfl (by first | rfl | assumption) rfl (by assumption) ?_
              refine b_iconst rfl ?_
              refine b_iconst rfl ?_
              refine b_iload rfl rfl ?_
              refine b_imul rfl ?_
              refine b_iadd rfl ?_
              refine b_iaload rfl (by first | rfl | assumption) (hi_ix (1 + 3 * i) i1 (by omega)) (by omega) ?_
              rw [e201, la]
              refine b_istore rfl (Nat.le_of_ble_eq_true rfl) ?_
              refine b_aload_n rfl rfl ?_
              refine b_getR rfl (by first | rfl | assumption) rfl (by assumption) ?_
              refine b_iconst rfl ?_
              refine b_iconst rfl ?_
              refine b_iload rfl rfl ?_
              refine b_imul rfl ?_
              refine b_iadd rfl ?_
              refine b_iaload rfl (by first | rfl | assumption) (hi_ix (2 + 3 * i) i2 (by omega)) (by omega) ?_
              rw [e201, lf]
              refine b_istore rfl (Nat.le_of_ble_eq_true rfl) ?_
              refine b_aload_n rfl rfl ?_
              refine b_getR rfl (by first | rfl | assumption) rfl (by assumption) ?_
              refine b_iconst rfl ?_
              refine b_iconst rfl ?_
              refine b_iload rfl rfl ?_
              refine b_imul rfl ?_
              refine b_iadd rfl ?_
              refine b_iaload rfl (by first | rfl | assumption) (hi_ix (3 + 3 * i) i3 (by omega)) (by omega) ?_
              rw [e201, ls]
              refine b_istore rfl (Nat.le_of_ble_eq_true rfl) ?_
              refine b_iload rfl rfl ?_
              refine b_if_eq rfl (fun c_83 => ?_) (fun c_83 => ?_)
              · exact absurd c_83 n1
              · refine b_iload rfl rfl ?_
                refine b_iconst rfl ?_
                refine b_icmp_eq rfl (fun c_89 => ?_) (fun c_89 => ?_)
                · exact absurd c_89 (by decide)
                · refine b_iload rfl rfl ?_
                  refine b_iconst rfl ?_
                  refine b_icmp_ne rfl (fun c_95 => ?_) (fun c_95 => ?_)
                  · exact absurd rfl c_95
                  · refine b_aload_n rfl rfl ?_
                    refine b_sipush rfl ?_
                    refine b_iload rfl rfl ?_
                    refine b_iload rfl rfl ?_
                    refine b_callV rfl rfl hk_M_mayShift rfl rfl rfl (by first | rfl | assumption) rfl (Nat.le_of_ble_eq_true rfl) (q_M_mayShift hM9 g.1 n8 hqw.1 (show f < 4 by omega) rfl) (Nat.le_of_ble_eq_true rfl) (fun r_106 D_106 q_106 => ?_)
                    obtain ⟨rfl, hq⟩ := q_106
                    rw [if_pos hc] at hq
                    subst hq
                    refine b_if_eq rfl (fun c_109 => ?_) (fun c_109 => ?_)
                    · exact absurd c_109 (by decide)
                    · refine b_goto rfl ?_
                      refine b_iconst rfl ?_
                      refine b_goto rfl ?_
                      refine b_istore rfl (Nat.le_of_ble_eq_true rfl) ?_
                      refine b_iload rfl rfl ?_
                      refine b_if_ne rfl (fun c_157 => ?_) (fun c_157 => ?_)
                      · refine b_iload_n rfl rfl ?_
                        refine b_istore_n rfl (Nat.le_of_ble_eq_true rfl) ?_
                        refine b_iconst rfl ?_
                        refine b_istore rfl (Nat.le_of_ble_eq_true rfl) ?_
                        refine b_iload rfl rfl ?_
                        refine b_if_ne rfl (fun c_176 => ?_) (fun c_176 => ?_)
                        · refine b_iload rfl rfl ?_
                          refine b_if_eq rfl (fun c_202 => ?_) (fun c_202 => ?_)
                          · exact absurd c_202 (by decide)
                          · refine b_iload rfl rfl ?_
                            refine b_iconst rfl ?_
                            refine b_icmp_ne rfl (fun c_208 => ?_) (fun c_208 => ?_)
                            · exact absurd rfl c_208
                            · refine b_aload_n rfl rfl ?_
                              refine b_sipush rfl ?_
                              refine b_iload rfl rfl ?_
                              refine b_iload rfl rfl ?_
                              refine b_callV rfl rfl hk_M_shifts rfl rfl rfl (by first | rfl | assumption) rfl (Nat.le_of_ble_eq_true rfl) (qm_tg hB h (by omega) g hqw hp hk hc rfl) (Nat.le_of_ble_eq_true rfl) (fun r_219 D_219 q_219 => ?_)
                              obtain ⟨⟨I2, rfl, h2, g2⟩, rfl⟩ := q_219
                              refine b_istore rfl (Nat.le_of_ble_eq_true rfl) ?_
                              refine b_goto rfl ?_
                              by_cases hg : sp_shf N 0 q f s
                              · exact T287 I2 _ _ _ _ _ _ _ h2 g2 hj.symm (by rw [if_pos hg]; exact (if_neg (show ¬ ((2 : Nat) = 1 ∧ w0 = -1) by omega)).symm) (by rw [if_pos hg, if_pos hg]; rfl)
                              · exact T287 I2 _ _ _ _ _ _ _ h2 g2 hj.symm (by rw [if_neg hg]; exact (if_neg (show ¬ ((0 : Nat) = 1 ∧ w0 = -1) by omega)).symm) (by rw [if_neg hg, if_neg hg]; rfl)
                        · exact absurd c_176 n1
                      · exact absurd c_157 (by decide)
          · rw [if_neg hc] at hj
            refine b_iload rfl rfl ?_
            refine b_aload_n rfl rfl ?_
            refine b_getR rfl (by first | rfl | assumption) rfl (by assumption) ?_
            refine b_iconst rfl ?_
            refine b_iaload rfl (by first | rfl | assumption) (by first | assumption | exact nI_toInt (by omega) | exact hi_l0 | exact hi_l1 | exact hi_l2 | exact hi_l3 | exact hi_l4 | exact hi_l5 | exact hi_l6) (by omega) ?_
            rw [e201, hL.1]
            refine b_icmp_ge rfl (fun c_39 => ?_) (fun c_39 => ?_)
            · exact absurd c_39 (nI_ge hi (by omega))
            · refine b_aload_n rfl rfl ?_
              refine b_getR rfl (by first | rfl | assumption) rfl (by assumption) ?_
              refine b_iconst rfl ?_
              refine b_iconst rfl ?_
              refine b_iload rfl rfl ?_
              refine b_imul rfl ?_
              refine b_iadd rfl ?_
              refine b_iaload rfl (by first | rfl | assumption) (hi_ix (1 + 3 * i) i1 (by omega)) (by omega) ?_
              rw [e201, la]
              refine b_istore rfl (Nat.le_of_ble_eq_true rfl) ?_
              refine b_aload_n rfl rfl ?_
              refine b_getR rfl (by first | rfl | assumption) rfl (by assumption) ?_
              refine b_iconst rfl ?_
              refine b_iconst rfl ?_
              refine b_iload rfl rfl ?_
              refine b_imul rfl ?_
              refine b_iadd rfl ?_
              refine b_iaload rfl (by first | rfl | assumption) (hi_ix (2 + 3 * i) i2 (by omega)) (by omega) ?_
              rw [e201, lf]
              refine b_istore rfl (Nat.le_of_ble_eq_true rfl) ?_
              refine b_aload_n rfl rfl ?_
              refine b_getR rfl (by first | rfl | assumption) rfl (by assumption) ?_
              refine b_iconst rfl ?_
              refine b_iconst rfl ?_
              refine b_iload rfl rfl ?_
              refine b_imul rfl ?_
              refine b_iadd rfl ?_
              refine b_iaload rfl (by first | rfl | assumption) (hi_ix (3 + 3 * i) i3 (by omega)) (by omega) ?_
              rw [e201, ls]
              refine b_istore rfl (Nat.le_of_ble_eq_true rfl) ?_
              refine b_iload rfl rfl ?_
              refine b_if_eq rfl (fun c_83 => ?_) (fun c_83 => ?_)
              · exact absurd c_83 n1
              · refine b_iload rfl rfl ?_
                refine b_iconst rfl ?_
                refine b_icmp_eq rfl (fun c_89 => ?_) (fun c_89 => ?_)
                · exact absurd c_89 (by decide)
                · refine b_iload rfl rfl ?_
                  refine b_iconst rfl ?_
                  refine b_icmp_ne rfl (fun c_95 => ?_) (fun c_95 => ?_)
                  · exact absurd rfl c_95
                  · refine b_aload_n rfl rfl ?_
                    refine b_sipush rfl ?_
                    refine b_iload rfl rfl ?_
                    refine b_iload rfl rfl ?_
                    refine b_callV rfl rfl hk_M_mayShift rfl rfl rfl (by first | rfl | assumption) rfl (Nat.le_of_ble_eq_true rfl) (q_M_mayShift hM9 g.1 n8 hqw.1 (show f < 4 by omega) rfl) (Nat.le_of_ble_eq_true rfl) (fun r_106 D_106 q_106 => ?_)
                    obtain ⟨rfl, hq⟩ := q_106
                    rw [if_neg hc] at hq
                    subst hq
                    refine b_if_eq rfl (fun c_109 => ?_) (fun c_109 => ?_)
                    · refine b_iconst rfl ?_
                      refine b_istore rfl (Nat.le_of_ble_eq_true rfl) ?_
                      refine b_iload rfl rfl ?_
                      refine b_if_ne rfl (fun c_157 => ?_) (fun c_157 => ?_)
                      · exact absurd rfl c_157
                      · refine b_iload_n rfl rfl ?_
                        refine b_if_ge rfl (fun c_161 => ?_) (fun c_161 => ?_)
                        · refine b_iload_n rfl rfl ?_
                          refine b_istore_n rfl (Nat.le_of_ble_eq_true rfl) ?_
                          refine b_iconst rfl ?_
                          refine b_istore rfl (Nat.le_of_ble_eq_true rfl) ?_
                          refine b_iload rfl rfl ?_
                          refine b_if_ne rfl (fun c_176 => ?_) (fun c_176 => ?_)
                          · refine b_iload rfl rfl ?_
                            refine b_if_eq rfl (fun c_202 => ?_) (fun c_202 => ?_)
                            · refine b_iload rfl rfl ?_
                              refine b_if_eq rfl (fun c_229 => ?_) (fun c_229 => ?_)
                              · refine b_iload rfl rfl ?_
                                refine b_if_eq rfl (fun c_266 => ?_) (fun c_266 => ?_)
                                · first | exact T287 I' _ _ _ _ _ _ _ h g hj.symm (if_neg (fun z : (1 : Nat) = 1 ∧ w0 = -1 => hi_m1 (z.2 ▸ c_161))).symm rfl | exact T287 I' _ _ _ _ _ _ _ h g hj.symm (if_pos (show (1 : Nat) = 1 ∧ w0 = -1 from ⟨rfl, hw0.resolve_right c_161⟩)).symm rfl
                                · exact absurd rfl c_266
                              · exact absurd rfl c_229
                            · exact absurd rfl c_202
                          · exact absurd c_176 n1
                        · refine b_iload rfl rfl ?_
                          refine b_goto rfl ?_
                          refine b_istore_n rfl (Nat.le_of_ble_eq_true rfl) ?_
                          refine b_iconst rfl ?_
                          refine b_istore rfl (Nat.le_of_ble_eq_true rfl) ?_
                          refine b_iload rfl rfl ?_
                          refine b_if_ne rfl (fun c_176 => ?_) (fun c_176 => ?_)
                          · refine b_iload rfl rfl ?_
                            refine b_if_eq rfl (fun c_202 => ?_) (fun c_202 => ?_)
                            · refine b_iload rfl rfl ?_
                              refine b_if_eq rfl (fun c_229 => ?_) (fun c_229 => ?_)
                              · refine b_iload rfl rfl ?_
                                refine b_if_eq rfl (fun c_266 => ?_) (fun c_266 => ?_)
                                · first | exact T287 I' _ _ _ _ _ _ _ h g hj.symm (if_neg (fun z : (1 : Nat) = 1 ∧ w0 = -1 => hi_m1 (z.2 ▸ c_161))).symm rfl | exact T287 I' _ _ _ _ _ _ _ h g hj.symm (if_pos (show (1 : Nat) = 1 ∧ w0 = -1 from ⟨rfl, hw0.resolve_right c_161⟩)).symm rfl
                                · exact absurd rfl c_266
                              · exact absurd rfl c_229
                            · exact absurd rfl c_202
                          · exact absurd c_176 n1
                    · exact absurd rfl c_109
        · have hp := w2 (by omega)
          have lf := lf (by omega)
          have hj : jd_step N (2, f, s) q = (if qP q f = -1 then (q, 1) else (sp_put q f (-1), 0)) := by unfold jd_step; simp only; rw [if_neg (by omega), if_neg (by omega), if_neg (by omega), if_pos trivial]
          have n0 : ¬ nI 2 = (0 : Int32) := by decide
          by_cases hc : qP q f = -1
          · rw [if_pos hc] at hj
            refine b_iload rfl rfl ?_
            refine b_aload_n rfl rfl ?_
            refine b_getR rfl (by first | rfl | assumption) rfl (by assumption) ?_
            refine b_iconst rfl ?_
            refine b_iaload rfl (by first | rfl | assumption) (by first | assumption | exact nI_toInt (by omega) | exact hi_l0 | exact hi_l1 | exact hi_l2 | exact hi_l3 | exact hi_l4 | exact hi_l5 | exact hi_l6) (by omega) ?_
            rw [e201, hL.1]
            refine b_icmp_ge rfl (fun c_39 => ?_) (fun c_39 => ?_)
            · exact absurd c_39 (nI_ge hi (by omega))
            · refine b_aload_n rfl rfl ?_
              refine b_getR rfl (by first | rfl | assumption) rfl (by assumption) ?_
              refine b_iconst rfl ?_
              refine b_iconst rfl ?_
              refine b_iload rfl rfl ?_
              refine b_imul rfl ?_
              refine b_iadd rfl ?_
              refine b_iaload rfl (by first | rfl | assumption) (hi_ix (1 + 3 * i) i1 (by omega)) (by omega) ?_
              rw [e201, la]
              refine b_istore rfl (Nat.le_of_ble_eq_true rfl) ?_
              refine b_aload_n rfl rfl ?_
              refine b_getR rfl (by first | rfl | assumption) rfl (by assumption) ?_
              refine b_iconst rfl ?_
              refine b_iconst rfl ?_
              refine b_iload rfl rfl ?_
              refine b_imul rfl ?_
              refine b_iadd rfl ?_
              refine b_iaload rfl (by first | rfl | assumption) (hi_ix (2 + 3 * i) i2 (by omega)) (by omega) ?_
              rw [e201, lf]
              refine b_istore rfl (Nat.le_of_ble_eq_true rfl) ?_
              refine b_aload_n rfl rfl ?_
              refine b_getR rfl (by first | rfl | assumption) rfl (by assumption) ?_
              refine b_iconst rfl ?_
              refine b_iconst rfl ?_
              refine b_iload rfl rfl ?_
              refine b_imul rfl ?_
              refine b_iadd rfl ?_
              refine b_iaload rfl (by first | rfl | assumption) (hi_ix (3 + 3 * i) i3 (by omega)) (by omega) ?_
              refine b_istore rfl (Nat.le_of_ble_eq_true rfl) ?_
              refine b_iload rfl rfl ?_
              refine b_if_eq rfl (fun c_83 => ?_) (fun c_83 => ?_)
              · exact absurd c_83 n0
              · refine b_iload rfl rfl ?_
                refine b_iconst rfl ?_
                refine b_icmp_eq rfl (fun c_89 => ?_) (fun c_89 => ?_)
                · exact absurd c_89 (by decide)
                · refine b_iload rfl rfl ?_
                  refine b_iconst rfl ?_
                  refine b_icmp_ne rfl (fun c_95 => ?_) (fun c_95 => ?_)
                  · refine b_iload rfl rfl ?_
                    refine b_iconst rfl ?_
                    refine b_icmp_ne rfl (fun c_118 => ?_) (fun c_118 => ?_)
                    · exact absurd rfl c_118
                    · refine b_aload_n rfl rfl ?_
                      refine b_sipush rfl ?_
                      refine b_iload rfl rfl ?_
                      refine b_callV rfl rfl hk_M_doesLie rfl rfl rfl (by first | rfl | assumption) rfl (Nat.le_of_ble_eq_true rfl) (q_M_doesLie hM9 g.1 n8 hqw.1 (show f < 4 by omega) rfl) (Nat.le_of_ble_eq_true rfl) (fun r_127 D_127 q_127 => ?_)
                      obtain ⟨rfl, hq⟩ := q_127
                      rw [if_pos hc] at hq
                      subst hq
                      refine b_if_eq rfl (fun c_130 => ?_) (fun c_130 => ?_)
                      · refine b_iconst rfl ?_
                        refine b_istore rfl (Nat.le_of_ble_eq_true rfl) ?_
                        refine b_iload rfl rfl ?_
                        refine b_if_ne rfl (fun c_157 => ?_) (fun c_157 => ?_)
                        · exact absurd rfl c_157
                        · refine b_iload_n rfl rfl ?_
                          refine b_if_ge rfl (fun c_161 => ?_) (fun c_161 => ?_)
                          · refine b_iload_n rfl rfl ?_
                            refine b_istore_n rfl (Nat.le_of_ble_eq_true rfl) ?_
                            refine b_iconst rfl ?_
                            refine b_istore rfl (Nat.le_of_ble_eq_true rfl) ?_
                            refine b_iload rfl rfl ?_
                            refine b_if_ne rfl (fun c_176 => ?_) (fun c_176 => ?_)
                            · refine b_iload rfl rfl ?_
                              refine b_if_eq rfl (fun c_202 => ?_) (fun c_202 => ?_)
                              · refine b_iload rfl rfl ?_
                                refine b_if_eq rfl (fun c_229 => ?_) (fun c_229 => ?_)
                                · refine b_iload rfl rfl ?_
                                  refine b_if_eq rfl (fun c_266 => ?_) (fun c_266 => ?_)
                                  · first | exact T287 I' _ _ _ _ _ _ _ h g hj.symm (if_neg (fun z : (1 : Nat) = 1 ∧ w0 = -1 => hi_m1 (z.2 ▸ c_161))).symm rfl | exact T287 I' _ _ _ _ _ _ _ h g hj.symm (if_pos (show (1 : Nat) = 1 ∧ w0 = -1 from ⟨rfl, hw0.resolve_right c_161⟩)).symm rfl
                                  · exact absurd rfl c_266
                                · exact absurd rfl c_229
                              · exact absurd rfl c_202
                            · exact absurd c_176 n0
                          · refine b_iload rfl rfl ?_
                            refine b_goto rfl ?_
                            refine b_istore_n rfl (Nat.le_of_ble_eq_true rfl) ?_
                            refine b_iconst rfl ?_
                            refine b_istore rfl (Nat.le_of_ble_eq_true rfl) ?_
                            refine b_iload rfl rfl ?_
                            refine b_if_ne rfl (fun c_176 => ?_) (fun c_176 => ?_)
                            · refine b_iload rfl rfl ?_
                              refine b_if_eq rfl (fun c_202 => ?_) (fun c_202 => ?_)
                              · refine b_iload rfl rfl ?_
                                refine b_if_eq rfl (fun c_229 => ?_) (fun c_229 => ?_)
                                · refine b_iload rfl rfl ?_
                                  refine b_if_eq rfl (fun c_266 => ?_) (fun c_266 => ?_)
                                  · first | exact T287 I' _ _ _ _ _ _ _ h g hj.symm (if_neg (fun z : (1 : Nat) = 1 ∧ w0 = -1 => hi_m1 (z.2 ▸ c_161))).symm rfl | exact T287 I' _ _ _ _ _ _ _ h g hj.symm (if_pos (show (1 : Nat) = 1 ∧ w0 = -1 from ⟨rfl, hw0.resolve_right c_161⟩)).symm rfl
                                  · exact absurd rfl c_266
                                · exact absurd rfl c_229
                              · exact absurd rfl c_202
                            · exact absurd c_176 n0
                      · exact absurd rfl c_130
                  · exact absurd c_95 (by decide)
          · rw [if_neg hc] at hj
            refine b_iload rfl rfl ?_
            refine b_aload_n rfl rfl ?_
            refine b_getR rfl (by first | rfl | assumption) rfl (by assumption) ?_
            refine b_iconst rfl ?_
            refine b_iaload rfl (by first | rfl | assumption) (by first | assumption | exact nI_toInt (by omega) | exact hi_l0 | exact hi_l1 | exact hi_l2 | exact hi_l3 | exact hi_l4 | exact hi_l5 | exact hi_l6) (by omega) ?_
            rw [e201, hL.1]
            refine b_icmp_ge rfl (fun c_39 => ?_) (fun c_39 => ?_)
            · exact absurd c_39 (nI_ge hi (by omega))
            · refine b_aload_n rfl rfl ?_
              refine b_getR rfl (by first | rfl | assumption) rfl (by assumption) ?_
              refine b_iconst rfl ?_
              refine b_iconst rfl ?_
              refine b_iload rfl rfl ?_
              refine b_imul rfl ?_
              refine b_iadd rfl ?_
              refine b_iaload rfl (by first | rfl | assumption) (hi_ix (1 + 3 * i) i1 (by omega)) (by omega) ?_
              rw [e201, la]
              refine b_istore rfl (Nat.le_of_ble_eq_true rfl) ?_
              refine b_aload_n rfl rfl ?_
              refine b_getR rfl (by first | rfl | assumption) rfl (by assumption) ?_
              refine b_iconst rfl ?_
              refine b_iconst rfl ?_
              refine b_iload rfl rfl ?_
              refine b_imul rfl ?_
              refine b_iadd rfl ?_
              refine b_iaload rfl (by first | rfl | assumption) (hi_ix (2 + 3 * i) i2 (by omega)) (by omega) ?_
              rw [e201, lf]
              refine b_istore rfl (Nat.le_of_ble_eq_true rfl) ?_
              refine b_aload_n rfl rfl ?_
              refine b_getR rfl (by first | rfl | assumption) rfl (by assumption) ?_
              refine b_iconst rfl ?_
              refine b_iconst rfl ?_
              refine b_iload rfl rfl ?_
              refine b_imul rfl ?_
              refine b_iadd rfl ?_
              refine b_iaload rfl (by first | rfl | assumption) (hi_ix (3 + 3 * i) i3 (by omega)) (by omega) ?_
              refine b_istore rfl (Nat.le_of_ble_eq_true rfl) ?_
              refine b_iload rfl rfl ?_
              refine b_if_eq rfl (fun c_83 => ?_) (fun c_83 => ?_)
              · exact absurd c_83 n0
              · refine b_iload rfl rfl ?_
                refine b_iconst rfl ?_
                refine b_icmp_eq rfl (fun c_89 => ?_) (fun c_89 => ?_)
                · exact absurd c_89 (by decide)
                · refine b_iload rfl rfl ?_
                  refine b_iconst rfl ?_
                  refine b_icmp_ne rfl (fun c_95 => ?_) (fun c_95 => ?_)
                  · refine b_iload rfl rfl ?_
                    refine b_iconst rfl ?_
                    refine b_icmp_ne rfl (fun c_118 => ?_) (fun c_118 => ?_)
                    · exact absurd rfl c_118
                    · refine b_aload_n rfl rfl ?_
                      refine b_sipush rfl ?_
                      refine b_iload rfl rfl ?_
                      refine b_callV rfl rfl hk_M_doesLie rfl rfl rfl (by first | rfl | assumption) rfl (Nat.le_of_ble_eq_true rfl) (q_M_doesLie hM9 g.1 n8 hqw.1 (show f < 4 by omega) rfl) (Nat.le_of_ble_eq_true rfl) (fun r_127 D_127 q_127 => ?_)
                      obtain ⟨rfl, hq⟩ := q_127
                      rw [if_neg hc] at hq
                      subst hq
                      refine b_if_eq rfl (fun c_130 => ?_) (fun c_130 => ?_)
                      · exact absurd c_130 (by decide)
                      · refine b_goto rfl ?_
                        refine b_iconst rfl ?_
                        refine b_goto rfl ?_
                        refine b_istore rfl (Nat.le_of_ble_eq_true rfl) ?_
                        refine b_iload rfl rfl ?_
                        refine b_if_ne rfl (fun c_157 => ?_) (fun c_157 => ?_)
                        · refine b_iload_n rfl rfl ?_
                          refine b_istore_n rfl (Nat.le_of_ble_eq_true rfl) ?_
                          refine b_iconst rfl ?_
                          refine b_istore rfl (Nat.le_of_ble_eq_true rfl) ?_
                          refine b_iload rfl rfl ?_
                          refine b_if_ne rfl (fun c_176 => ?_) (fun c_176 => ?_)
                          · refine b_iload rfl rfl ?_
                            refine b_if_eq rfl (fun c_202 => ?_) (fun c_202 => ?_)
                            · exact absurd c_202 (by decide)
                            · refine b_iload rfl rfl ?_
                              refine b_iconst rfl ?_
                              refine b_icmp_ne rfl (fun c_208 => ?_) (fun c_208 => ?_)
                              · refine b_iload rfl rfl ?_
                                refine b_if_eq rfl (fun c_229 => ?_) (fun c_229 => ?_)
                                · exact absurd c_229 (by decide)
                                · refine b_iload rfl rfl ?_
                                  refine b_iconst rfl ?_
                                  refine b_icmp_ge rfl (fun c_235 => ?_) (fun c_235 => ?_)
                                  · exact absurd c_235 (by decide)
                                  · refine b_aload_n rfl rfl ?_
                                    refine b_getR rfl (by first | rfl | assumption) rfl (by assumption) ?_
                                    refine b_sipush rfl ?_
                                    refine b_iload rfl rfl ?_
                                    refine b_iadd rfl ?_
                                    refine b_iload rfl rfl ?_
                                    refine b_iconst rfl ?_
                                    refine b_icmp_ne rfl (fun c_251 => ?_) (fun c_251 => ?_)
                                    · exact absurd rfl c_251
                                    · refine b_iconst rfl ?_
                                      refine b_goto rfl ?_
                                      refine b_iastore rfl (by first | rfl | assumption) (hi_ix (987 + 13 + f) (by rw [nI_ad]; rfl) (by omega)) (by omega) ?_
                                      refine b_goto rfl ?_
                                      exact T287 _ _ _ _ _ _ _ _ (hs_sm_u h (by omega)) (hs_put_mb (by omega) g) hj.symm (if_neg (show ¬ ((0 : Nat) = 1 ∧ w0 = -1) by omega)).symm rfl
                              · exact absurd c_208 (by decide)
                          · exact absurd c_176 n0
                        · exact absurd c_157 (by decide)
                  · exact absurd c_95 (by decide)
        · have hp := w2 (by omega)
          have lf := lf (by omega)
          have hk := w4 (by unfold ln_1; omega)
          have ls := ls (by unfold ln_1; omega)
          have hj : jd_step N (3, f, s) q = (if qP q f = -1 then (sp_put q f (nI s), 0) else (q, 1)) := by unfold jd_step; simp only; rw [if_neg (by omega), if_neg (by omega), if_neg (by omega), if_neg (by omega)]
          have n0 : ¬ nI 3 = (0 : Int32) := by decide
          by_cases hc : qP q f = -1
          · rw [if_pos hc] at hj
            refine b_iload rfl rfl ?_
            refine b_aload_n rfl rfl ?_
            refine b_getR rfl (by first | rfl | assumption) rfl (by assumption) ?_
            refine b_iconst rfl ?_
            refine b_iaload rfl (by first | rfl | assumption) (by first | assumption | exact nI_toInt (by omega) | exact hi_l0 | exact hi_l1 | exact hi_l2 | exact hi_l3 | exact hi_l4 | exact hi_l5 | exact hi_l6) (by omega) ?_
            rw [e201, hL.1]
            refine b_icmp_ge rfl (fun c_39 => ?_) (fun c_39 => ?_)
            · exact absurd c_39 (nI_ge hi (by omega))
            · refine b_aload_n rfl rfl ?_
              refine b_getR rfl (by first | rfl | assumption) rfl (by assumption) ?_
              refine b_iconst rfl ?_
              refine b_iconst rfl ?_
              refine b_iload rfl rfl ?_
              refine b_imul rfl ?_
              refine b_iadd rfl ?_
              refine b_iaload rfl (by first | rfl | assumption) (hi_ix (1 + 3 * i) i1 (by omega)) (by omega) ?_
              rw [e201, la]
              refine b_istore rfl (Nat.le_of_ble_eq_true rfl) ?_
              refine b_aload_n rfl rfl ?_
              refine b_getR rfl (by first | rfl | assumption) rfl (by assumption) ?_
              refine b_iconst rfl ?_
              refine b_iconst rfl ?_
              refine b_iload rfl rfl ?_
              refine b_imul rfl ?_
              refine b_iadd rfl ?_
              refine b_iaload rfl (by first | rfl | assumption) (hi_ix (2 + 3 * i) i2 (by omega)) (by omega) ?_
              rw [e201, lf]
              refine b_istore rfl (Nat.le_of_ble_eq_true rfl) ?_
              refine b_aload_n rfl rfl ?_
              refine b_getR rfl (by first | rfl | assumption) rfl (by assumption) ?_
              refine b_iconst rfl ?_
              refine b_iconst rfl ?_
              refine b_iload rfl rfl ?_
              refine b_imul rfl ?_
              refine b_iadd rfl ?_
              refine b_iaload rfl (by first | rfl | assumption) (hi_ix (3 + 3 * i) i3 (by omega)) (by omega) ?_
              rw [e201, ls]
              refine b_istore rfl (Nat.le_of_ble_eq_true rfl) ?_
              refine b_iload rfl rfl ?_
              refine b_if_eq rfl (fun c_83 => ?_) (fun c_83 => ?_)
              · exact absurd c_83 n0
              · refine b_iload rfl rfl ?_
                refine b_iconst rfl ?_
                refine b_icmp_eq rfl (fun c_89 => ?_) (fun c_89 => ?_)
                · exact absurd c_89 (by decide)
                · refine b_iload rfl rfl ?_
                  refine b_iconst rfl ?_
                  refine b_icmp_ne rfl (fun c_95 => ?_) (fun c_95 => ?_)
                  · refine b_iload rfl rfl ?_
                    refine b_iconst rfl ?_
                    refine b_icmp_ne rfl (fun c_118 => ?_) (fun c_118 => ?_)
                    · refine b_aload_n rfl rfl ?_
                      refine b_sipush rfl ?_
                      refine b_iload rfl rfl ?_
                      refine b_callV rfl rfl hk_M_doesLie rfl rfl rfl (by first | rfl | assumption) rfl (Nat.le_of_ble_eq_true rfl) (q_M_doesLie hM9 g.1 n8 hqw.1 (show f < 4 by omega) rfl) (Nat.le_of_ble_eq_true rfl) (fun r_142 D_142 q_142 => ?_)
                      obtain ⟨rfl, hq⟩ := q_142
                      rw [if_pos hc] at hq
                      subst hq
                      refine b_if_ne rfl (fun c_145 => ?_) (fun c_145 => ?_)
                      · exact absurd rfl c_145
                      · refine b_iconst rfl ?_
                        refine b_goto rfl ?_
                        refine b_istore rfl (Nat.le_of_ble_eq_true rfl) ?_
                        refine b_iload rfl rfl ?_
                        refine b_if_ne rfl (fun c_157 => ?_) (fun c_157 => ?_)
                        · refine b_iload_n rfl rfl ?_
                          refine b_istore_n rfl (Nat.le_of_ble_eq_true rfl) ?_
                          refine b_iconst rfl ?_
                          refine b_istore rfl (Nat.le_of_ble_eq_true rfl) ?_
                          refine b_iload rfl rfl ?_
                          refine b_if_ne rfl (fun c_176 => ?_) (fun c_176 => ?_)
                          · refine b_iload rfl rfl ?_
                            refine b_if_eq rfl (fun c_202 => ?_) (fun c_202 => ?_)
                            · exact absurd c_202 (by decide)
                            · refine b_iload rfl rfl ?_
                              refine b_iconst rfl ?_
                              refine b_icmp_ne rfl (fun c_208 => ?_) (fun c_208 => ?_)
                              · refine b_iload rfl rfl ?_
                                refine b_if_eq rfl (fun c_229 => ?_) (fun c_229 => ?_)
                                · exact absurd c_229 (by decide)
                                · refine b_iload rfl rfl ?_
                                  refine b_iconst rfl ?_
                                  refine b_icmp_ge rfl (fun c_235 => ?_) (fun c_235 => ?_)
                                  · exact absurd c_235 (by decide)
                                  · refine b_aload_n rfl rfl ?_
                                    refine b_getR rfl (by first | rfl | assumption) rfl (by assumption) ?_
                                    refine b_sipush rfl ?_
                                    refine b_iload rfl rfl ?_
                                    refine b_iadd rfl ?_
                                    refine b_iload rfl rfl ?_
                                    refine b_iconst rfl ?_
                                    refine b_icmp_ne rfl (fun c_251 => ?_) (fun c_251 => ?_)
                                    · refine b_iload rfl rfl ?_
                                      refine b_iastore rfl (by first | rfl | assumption) (hi_ix (987 + 13 + f) (by rw [nI_ad]; rfl) (by omega)) (by omega) ?_
                                      refine b_goto rfl ?_
                                      exact T287 _ _ _ _ _ _ _ _ (hs_sm_u h (by omega)) (hs_put_mb (by omega) g) hj.symm (if_neg (show ¬ ((0 : Nat) = 1 ∧ w0 = -1) by omega)).symm rfl
                                    · exact absurd c_251 (by decide)
                              · exact absurd c_208 (by decide)
                          · exact absurd c_176 n0
                        · exact absurd c_157 (by decide)
                    · exact absurd c_118 (by decide)
                  · exact absurd c_95 (by decide)
          · rw [if_neg hc] at hj
            refine b_iload rfl rfl ?_
            refine b_aload_n rfl rfl ?_
            refine b_getR rfl (by first | rfl | assumption) rfl (by assumption) ?_
            refine b_iconst rfl ?_
            refine b_iaload rfl (by first | rfl | assumption) (by first | assumption | exact nI_toInt (by omega) | exact hi_l0 | exact hi_l1 | exact hi_l2 | exact hi_l3 | exact hi_l4 | exact hi_l5 | exact hi_l6) (by omega) ?_
            rw [e201, hL.1]
            refine b_icmp_ge rfl (fun c_39 => ?_) (fun c_39 => ?_)
            · exact absurd c_39 (nI_ge hi (by omega))
            · refine b_aload_n rfl rfl ?_
              refine b_getR rfl (by first | rfl | assumption) rfl (by assumption) ?_
              refine b_iconst rfl ?_
              refine b_iconst rfl ?_
              refine b_iload rfl rfl ?_
              refine b_imul rfl ?_
              refine b_iadd rfl ?_
              refine b_iaload rfl (by first | rfl | assumption) (hi_ix (1 + 3 * i) i1 (by omega)) (by omega) ?_
              rw [e201, la]
              refine b_istore rfl (Nat.le_of_ble_eq_true rfl) ?_
              refine b_aload_n rfl rfl ?_
              refine b_getR rfl (by first | rfl | assumption) rfl (by assumption) ?_
              refine b_iconst rfl ?_
              refine b_iconst rfl ?_
              refine b_iload rfl rfl ?_
              refine b_imul rfl ?_
              refine b_iadd rfl ?_
              refine b_iaload rfl (by first | rfl | assumption) (hi_ix (2 + 3 * i) i2 (by omega)) (by omega) ?_
              rw [e201, lf]
              refine b_istore rfl (Nat.le_of_ble_eq_true rfl) ?_
              refine b_aload_n rfl rfl ?_
              refine b_getR rfl (by first | rfl | assumption) rfl (by assumption) ?_
              refine b_iconst rfl ?_
              refine b_iconst rfl ?_
              refine b_iload rfl rfl ?_
              refine b_imul rfl ?_
              refine b_iadd rfl ?_
              refine b_iaload rfl (by first | rfl | assumption) (hi_ix (3 + 3 * i) i3 (by omega)) (by omega) ?_
              rw [e201, ls]
              refine b_istore rfl (Nat.le_of_ble_eq_true rfl) ?_
              refine b_iload rfl rfl ?_
              refine b_if_eq rfl (fun c_83 => ?_) (fun c_83 => ?_)
              · exact absurd c_83 n0
              · refine b_iload rfl rfl ?_
                refine b_iconst rfl ?_
                refine b_icmp_eq rfl (fun c_89 => ?_) (fun c_89 => ?_)
                · exact absurd c_89 (by decide)
                · refine b_iload rfl rfl ?_
                  refine b_iconst rfl ?_
                  refine b_icmp_ne rfl (fun c_95 => ?_) (fun c_95 => ?_)
                  · refine b_iload rfl rfl ?_
                    refine b_iconst rfl ?_
                    refine b_icmp_ne rfl (fun c_118 => ?_) (fun c_118 => ?_)
                    · refine b_aload_n rfl rfl ?_
                      refine b_sipush rfl ?_
                      refine b_iload rfl rfl ?_
                      refine b_callV rfl rfl hk_M_doesLie rfl rfl rfl (by first | rfl | assumption) rfl (Nat.le_of_ble_eq_true rfl) (q_M_doesLie hM9 g.1 n8 hqw.1 (show f < 4 by omega) rfl) (Nat.le_of_ble_eq_true rfl) (fun r_142 D_142 q_142 => ?_)
                      obtain ⟨rfl, hq⟩ := q_142
                      rw [if_neg hc] at hq
                      subst hq
                      refine b_if_ne rfl (fun c_145 => ?_) (fun c_145 => ?_)
                      · refine b_iconst rfl ?_
                        refine b_istore rfl (Nat.le_of_ble_eq_true rfl) ?_
                        refine b_iload rfl rfl ?_
                        refine b_if_ne rfl (fun c_157 => ?_) (fun c_157 => ?_)
                        · exact absurd rfl c_157
                        · refine b_iload_n rfl rfl ?_
                          refine b_if_ge rfl (fun c_161 => ?_) (fun c_161 => ?_)
                          · refine b_iload_n rfl rfl ?_
                            refine b_istore_n rfl (Nat.le_of_ble_eq_true rfl) ?_
                            refine b_iconst rfl ?_
                            refine b_istore rfl (Nat.le_of_ble_eq_true rfl) ?_
                            refine b_iload rfl rfl ?_
                            refine b_if_ne rfl (fun c_176 => ?_) (fun c_176 => ?_)
                            · refine b_iload rfl rfl ?_
                              refine b_if_eq rfl (fun c_202 => ?_) (fun c_202 => ?_)
                              · refine b_iload rfl rfl ?_
                                refine b_if_eq rfl (fun c_229 => ?_) (fun c_229 => ?_)
                                · refine b_iload rfl rfl ?_
                                  refine b_if_eq rfl (fun c_266 => ?_) (fun c_266 => ?_)
                                  · first | exact T287 I' _ _ _ _ _ _ _ h g hj.symm (if_neg (fun z : (1 : Nat) = 1 ∧ w0 = -1 => hi_m1 (z.2 ▸ c_161))).symm rfl | exact T287 I' _ _ _ _ _ _ _ h g hj.symm (if_pos (show (1 : Nat) = 1 ∧ w0 = -1 from ⟨rfl, hw0.resolve_right c_161⟩)).symm rfl
                                  · exact absurd rfl c_266
                                · exact absurd rfl c_229
                              · exact absurd rfl c_202
                            · exact absurd c_176 n0
                          · refine b_iload rfl rfl ?_
                            refine b_goto rfl ?_
                            refine b_istore_n rfl (Nat.le_of_ble_eq_true rfl) ?_
                            refine b_iconst rfl ?_
                            refine b_istore rfl (Nat.le_of_ble_eq_true rfl) ?_
                            refine b_iload rfl rfl ?_
                            refine b_if_ne rfl (fun c_176 => ?_) (fun c_176 => ?_)
                            · refine b_iload rfl rfl ?_
                              refine b_if_eq rfl (fun c_202 => ?_) (fun c_202 => ?_)
                              · refine b_iload rfl rfl ?_
                                refine b_if_eq rfl (fun c_229 => ?_) (fun c_229 => ?_)
                                · refine b_iload rfl rfl ?_
                                  refine b_if_eq rfl (fun c_266 => ?_) (fun c_266 => ?_)
                                  · first | exact T287 I' _ _ _ _ _ _ _ h g hj.symm (if_neg (fun z : (1 : Nat) = 1 ∧ w0 = -1 => hi_m1 (z.2 ▸ c_161))).symm rfl | exact T287 I' _ _ _ _ _ _ _ h g hj.symm (if_pos (show (1 : Nat) = 1 ∧ w0 = -1 from ⟨rfl, hw0.resolve_right c_161⟩)).symm rfl
                                  · exact absurd rfl c_266
                                · exact absurd rfl c_229
                              · exact absurd rfl c_202
                            · exact absurd c_176 n0
                      · exact absurd c_145 (by decide)
                    · exact absurd c_118 (by decide)
                  · exact absurd c_95 (by decide)
        · have hk := w4 (by unfold ln_1; omega)
          have lf := lf (by omega)
          have ls := ls (by unfold ln_1; omega)
          have w3 := w3 rfl
          have n0 : ¬ nI 4 = (0 : Int32) := by decide
          have hj : jd_step N (4, f, s) q = (sp_tie q f s, 0) := by unfold jd_step; simp only; rw [if_neg (by omega), if_pos trivial]
          have hst : I' 204 (987 + 1 + f) = qS q f := g.1.2.1 f (by omega)
          refine b_iload rfl rfl ?_
          refine b_aload_n rfl rfl ?_
          refine b_getR rfl (by first | rfl | assumption) rfl (by assumption) ?_
          refine b_iconst rfl ?_
          refine b_iaload rfl (by first | rfl | assumption) (by first | assumption | exact nI_toInt (by omega) | exact hi_l0 | exact hi_l1 | exact hi_l2 | exact hi_l3 | exact hi_l4 | exact hi_l5 | exact hi_l6) (by omega) ?_
          rw [e201, hL.1]
          refine b_icmp_ge rfl (fun c_39 => ?_) (fun c_39 => ?_)
          · exact absurd c_39 (nI_ge hi (by omega))
          · refine b_aload_n rfl rfl ?_
            refine b_getR rfl (by first | rfl | assumption) rfl (by assumption) ?_
            refine b_iconst rfl ?_
            refine b_iconst rfl ?_
            refine b_iload rfl rfl ?_
            refine b_imul rfl ?_
            refine b_iadd rfl ?_
            refine b_iaload rfl (by first | rfl | assumption) (hi_ix (1 + 3 * i) i1 (by omega)) (by omega) ?_
            rw [e201, la]
            refine b_istore rfl (Nat.le_of_ble_eq_true rfl) ?_
            refine b_aload_n rfl rfl ?_
            refine b_getR rfl (by first | rfl | assumption) rfl (by assumption) ?_
            refine b_iconst rfl ?_
            refine b_iconst rfl ?_
            refine b_iload rfl rfl ?_
            refine b_imul rfl ?_
            refine b_iadd rfl ?_
            refine b_iaload rfl (by first | rfl | assumption) (hi_ix (2 + 3 * i) i2 (by omega)) (by omega) ?_
            rw [e201, lf]
            refine b_istore rfl (Nat.le_of_ble_eq_true rfl) ?_
            refine b_aload_n rfl rfl ?_
            refine b_getR rfl (by first | rfl | assumption) rfl (by assumption) ?_
            refine b_iconst rfl ?_
            refine b_iconst rfl ?_
            refine b_iload rfl rfl ?_
            refine b_imul rfl ?_
            refine b_iadd rfl ?_
            refine b_iaload rfl (by first | rfl | assumption) (hi_ix (3 + 3 * i) i3 (by omega)) (by omega) ?_
            rw [e201, ls]
            refine b_istore rfl (Nat.le_of_ble_eq_true rfl) ?_
            refine b_iload rfl rfl ?_
            refine b_if_eq rfl (fun c_83 => ?_) (fun c_83 => ?_)
            · exact absurd c_83 n0
            · refine b_iload rfl rfl ?_
              refine b_iconst rfl ?_
              refine b_icmp_eq rfl (fun c_89 => ?_) (fun c_89 => ?_)
              · refine b_iconst rfl ?_
                refine b_goto rfl ?_
                refine b_istore rfl (Nat.le_of_ble_eq_true rfl) ?_
                refine b_iload rfl rfl ?_
                refine b_if_ne rfl (fun c_157 => ?_) (fun c_157 => ?_)
                · refine b_iload_n rfl rfl ?_
                  refine b_istore_n rfl (Nat.le_of_ble_eq_true rfl) ?_
                  refine b_iconst rfl ?_
                  refine b_istore rfl (Nat.le_of_ble_eq_true rfl) ?_
                  refine b_iload rfl rfl ?_
                  refine b_if_ne rfl (fun c_176 => ?_) (fun c_176 => ?_)
                  · refine b_iload rfl rfl ?_
                    refine b_if_eq rfl (fun c_202 => ?_) (fun c_202 => ?_)
                    · exact absurd c_202 (by decide)
                    · refine b_iload rfl rfl ?_
                      refine b_iconst rfl ?_
                      refine b_icmp_ne rfl (fun c_208 => ?_) (fun c_208 => ?_)
                      · refine b_iload rfl rfl ?_
                        refine b_if_eq rfl (fun c_229 => ?_) (fun c_229 => ?_)
                        · exact absurd c_229 (by decide)
                        · refine b_iload rfl rfl ?_
                          refine b_iconst rfl ?_
                          refine b_icmp_ge rfl (fun c_235 => ?_) (fun c_235 => ?_)
                          · refine b_iload rfl rfl ?_
                            refine b_if_eq rfl (fun c_266 => ?_) (fun c_266 => ?_)
                            · exact absurd c_266 (by decide)
                            · refine b_aload_n rfl rfl ?_
                              refine b_getR rfl (by first | rfl | assumption) rfl (by assumption) ?_
                              refine b_sipush rfl ?_
                              refine b_iload rfl rfl ?_
                              refine b_iadd rfl ?_
                              refine b_dup2_11 rfl rfl rfl ?_
                              refine b_iaload rfl (by first | rfl | assumption) (hi_ix (987 + 1 + f) (by rw [nI_ad]; rfl) (by omega)) (by omega) ?_
                              rw [hst]
                              refine b_iconst rfl ?_
                              refine b_iload rfl rfl ?_
                              refine b_ishl rfl ?_
                              refine b_ixor rfl ?_
                              refine b_iastore rfl (by first | rfl | assumption) (hi_ix (987 + 1 + f) (by rw [nI_ad]; rfl) (by omega)) (by omega) ?_
                              exact T287 _ _ _ _ _ _ _ _ (hs_sm_u h (by omega)) (hs_tie_mb (k := f) (o := s) (by omega) g rfl) hj.symm (if_neg (show ¬ ((0 : Nat) = 1 ∧ w0 = -1) by omega)).symm rfl
                          · exact absurd c_235 (by decide)
                      · exact absurd c_208 (by decide)
                  · exact absurd c_176 n0
                · exact absurd c_157 (by decide)
              · exact absurd rfl c_89
    refine b_aload_n rfl rfl ?_
    refine b_iconst rfl ?_
    refine b_putI rfl (by first | rfl | assumption) rfl rfl ⟨rfl, rfl⟩ ?_
    have hB1 := hs_B_0 (v := 0) hB
    have hs0 : hs_sm I J R (hn_u I 188 0 0, J, R) := hs_sm_0
    obtain ⟨I0, h0⟩ : ∃ z, z = hn_u I 188 0 0 := ⟨_, rfl⟩
    rw [← h0] at hB1 hs0 ⊢
    have e0 : ∀ b, b ≠ 188 → I0 b = I b := fun b hb => by rw [h0, hn_u_ne _ _ _ hb]
    have e188 : ∀ j, j ≠ 0 → I0 188 j = I 188 j := fun j hj => by rw [h0, hn_u_eq, va_up, if_neg hj]
    have hB2 := hB1
    obtain ⟨hR, hN, hQ, hfm, hw, hAw⟩ := hB1
    have hM := hs_M_of hR
    have hN0 := hN
    have hQ0 := hQ
    have hw0 := hw
    obtain ⟨⟨hn, n8, hnp, n4, hkn⟩, hL⟩ := hN
    obtain ⟨⟨_, hVs, hVw, hVp, hVh⟩, hVt⟩ := hQ
    simp only [Nat.zero_add] at hVs hVw hVp hVh
    obtain ⟨m1, m4, m5, m6, m9, m10, m11, m12, m14, m15, m16, m17, m20, m21, m22, m23, m25, m27, m28, m29, m30, m31, m32⟩ := id hM
    refine b_iload_n rfl rfl ?_
    refine b_iconst rfl ?_
    refine b_iconst rfl ?_
    refine b_callS rfl rfl hk_M_within rfl rfl rfl (Nat.le_of_ble_eq_true rfl) (q_M_within) (Nat.le_of_ble_eq_true rfl) (fun r_8 D_8 q_8 => ?_)
    obtain ⟨rfl, hq⟩ := q_8
    rw [if_pos hw9] at hq
    subst hq
    refine b_if_ne rfl (fun c_11 => ?_) (fun c_11 => ?_)
    · refine b_aload_n rfl rfl ?_
      refine b_sipush rfl ?_
      refine b_callV rfl rfl hk_M_starts rfl rfl rfl (by first | rfl | assumption) rfl (Nat.le_of_ble_eq_true rfl) (q_M_starts (N := N) (S := S) (b := 987) hM hn n8 hnp n4 ⟨fun k hk => by rw [e0 194 (by omega)]; exact hS.1 k hk, fun p hp => by rw [e0 194 (by omega)]; exact hS.2.1 p hp, hS.2.2.1, hS.2.2.2⟩ hSw (by omega) rfl) (Nat.le_of_ble_eq_true rfl) (fun r_21 D_21 q_21 => ?_)
      obtain ⟨rfl, hf, g1, g2⟩ := q_21
      obtain ⟨I1, rfl, hI1⟩ := hf.out
      have h1 : hs_sm I J R (I1, J, R) := ⟨rfl, fun c hc => by show I1 c = I c; rw [hI1 c (fun e => hc (by omega)), e0 c (fun e => hc (by omega))], fun j hj => by show I1 188 j = _; rw [hI1 188 (by omega), e188 j (by omega)], fun j hj => (g1 j (by omega)).trans (by rw [e0 204 (by omega)]), fun _ _ => rfl⟩
      refine b_iconst rfl ?_
      refine b_istore_n rfl (Nat.le_of_ble_eq_true rfl) ?_
      refine b_iconst rfl ?_
      refine b_istore_n rfl (Nat.le_of_ble_eq_true rfl) ?_
      refine b_iconst rfl ?_
      refine b_istore rfl (Nat.le_of_ble_eq_true rfl) ?_
      exact b_lp (lp I1 h1 g2) (le_e (le_e (le_e (le_e (le_q (by rw [nI_0]) (le_n (le_n (le_n (le_n (le_n le_0)))))))))) rfl rfl
    · exact absurd c_11 (by decide)
  · have hv : v_judged N S L w = -2 := by
      rw [v_judged, if_neg (fun z => hw9 (by rw [z]; decide)), if_neg (fun z => hw9 (by rw [z]; decide)), if_neg (fun z => hw9 (by rw [z]; decide))]
    rw [hv]
    refine b_aload_n rfl rfl ?_
    refine b_iconst rfl ?_
    refine b_putI rfl (by first | rfl | assumption) rfl rfl ⟨rfl, rfl⟩ ?_
    have hB1 := hs_B_0 (v := 0) hB
    have hs0 : hs_sm I J R (hn_u I 188 0 0, J, R) := hs_sm_0
    obtain ⟨I0, h0⟩ : ∃ z, z = hn_u I 188 0 0 := ⟨_, rfl⟩
    rw [← h0] at hB1 hs0 ⊢
    have e0 : ∀ b, b ≠ 188 → I0 b = I b := fun b hb => by rw [h0, hn_u_ne _ _ _ hb]
    have e188 : ∀ j, j ≠ 0 → I0 188 j = I 188 j := fun j hj => by rw [h0, hn_u_eq, va_up, if_neg hj]
    have hB2 := hB1
    obtain ⟨hR, hN, hQ, hfm, hw, hAw⟩ := hB1
    have hM := hs_M_of hR
    have hN0 := hN
    have hQ0 := hQ
    have hw0 := hw
    obtain ⟨⟨hn, n8, hnp, n4, hkn⟩, hL⟩ := hN
    obtain ⟨⟨_, hVs, hVw, hVp, hVh⟩, hVt⟩ := hQ
    simp only [Nat.zero_add] at hVs hVw hVp hVh
    obtain ⟨m1, m4, m5, m6, m9, m10, m11, m12, m14, m15, m16, m17, m20, m21, m22, m23, m25, m27, m28, m29, m30, m31, m32⟩ := id hM
    refine b_iload_n rfl rfl ?_
    refine b_iconst rfl ?_
    refine b_iconst rfl ?_
    refine b_callS rfl rfl hk_M_within rfl rfl rfl (Nat.le_of_ble_eq_true rfl) (q_M_within) (Nat.le_of_ble_eq_true rfl) (fun r_8 D_8 q_8 => ?_)
    obtain ⟨rfl, hq⟩ := q_8
    rw [if_neg hw9] at hq
    subst hq
    refine b_if_ne rfl (fun c_11 => ?_) (fun c_11 => ?_)
    · exact absurd rfl c_11
    · refine b_bipush rfl ?_
      exact b_ireturn rfl trivial (⟨hs0, rfl⟩)
end HNmjudged
