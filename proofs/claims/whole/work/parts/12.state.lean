section HNstate
variable {I : Nat → Nat → Int32} {J : Nat → Nat → Int64} {R : Nat → Nat → Option Nat}
theorem q_State_isLying {a p : Nat} (ha : hs_St R a) (hp : p < 4) : hn_F 0 hm_State_isLying [.ref a, .int (nI p)] (I, J, R) (fun r D' => D' = (I, J, R) ∧ r = some (.int (if I (a + 3) p = -1 then 0 else 1))) := by
  obtain ⟨ha5, k0, k1, k2, k3, k4, r0, r1, r2, r3⟩ := ha
  refine hn_F_of _ hk_State_isLying rfl (Nat.le_of_ble_eq_true rfl) ?_
  refine b_aload_n rfl rfl ?_
  refine b_getR rfl (by first | rfl | assumption) rfl (by assumption) ?_
  refine b_iload_n rfl rfl ?_
  refine b_iaload rfl (by first | rfl | assumption) (by first | assumption | exact nI_toInt (by omega) | exact hi_l0 | exact hi_l1 | exact hi_l2 | exact hi_l3 | exact hi_l4 | exact hi_l5 | exact hi_l6) (by omega) ?_
  refine b_iconst rfl ?_
  refine b_icmp_eq rfl (fun c_7 => ?_) (fun c_7 => ?_)
  · refine b_iconst rfl ?_
    exact b_ireturn rfl (by first | exact Or.inl rfl | exact Or.inr rfl | exact trivial) (⟨rfl, by simp [c_7]⟩)
  · refine b_iconst rfl ?_
    refine b_goto rfl ?_
    exact b_ireturn rfl (by first | exact Or.inl rfl | exact Or.inr rfl | exact trivial) (⟨rfl, by simp [c_7]⟩)
theorem q_State_isAwake {a p : Nat} (ha : hs_St R a) (hp : p < 4) : hn_F 1 hm_State_isAwake [.ref a, .int (nI p)] (I, J, R) (fun r D' => D' = (I, J, R) ∧ r = some (.int (if sp_awk (I (a + 2)) (I (a + 3)) p then 1 else 0))) := by
  have ha0 := ha
  obtain ⟨ha5, k0, k1, k2, k3, k4, r0, r1, r2, r3⟩ := ha
  refine hn_F_of _ hk_State_isAwake rfl (Nat.le_of_ble_eq_true rfl) ?_
  by_cases h1 : I (a + 3) p = -1
  · have e : ¬ sp_awk (I (a + 2)) (I (a + 3)) p := fun z => z.1 h1
    refine b_aload_n rfl rfl ?_
    refine b_iload_n rfl rfl ?_
    refine b_callV rfl rfl hk_State_isLying rfl rfl rfl (by first | rfl | assumption) rfl (Nat.le_of_ble_eq_true rfl) (q_State_isLying ha0 hp) (Nat.le_of_ble_eq_true rfl) (fun r_2 D_2 q_2 => ?_)
    obtain ⟨rfl, hq⟩ := q_2
    rw [if_pos h1] at hq
    subst hq
    refine b_if_eq rfl (fun c_5 => ?_) (fun c_5 => ?_)
    · refine b_iconst rfl ?_
      exact b_ireturn rfl (by first | exact Or.inl rfl | exact Or.inr rfl | exact trivial) (⟨rfl, by rw [if_neg e]⟩)
    · exact absurd rfl c_5
  · refine b_aload_n rfl rfl ?_
    refine b_iload_n rfl rfl ?_
    refine b_callV rfl rfl hk_State_isLying rfl rfl rfl (by first | rfl | assumption) rfl (Nat.le_of_ble_eq_true rfl) (q_State_isLying ha0 hp) (Nat.le_of_ble_eq_true rfl) (fun r_2 D_2 q_2 => ?_)
    obtain ⟨rfl, hq⟩ := q_2
    rw [if_neg h1] at hq
    subst hq
    refine b_if_eq rfl (fun c_5 => ?_) (fun c_5 => ?_)
    · exact absurd c_5 (by decide)
    · refine b_aload_n rfl rfl ?_
      refine b_getR rfl (by first | rfl | assumption) rfl (by assumption) ?_
      refine b_iload_n rfl rfl ?_
      refine b_iaload rfl (by first | rfl | assumption) (by first | assumption | exact nI_toInt (by omega) | exact hi_l0 | exact hi_l1 | exact hi_l2 | exact hi_l3 | exact hi_l4 | exact hi_l5 | exact hi_l6) (by omega) ?_
      refine b_if_le rfl (fun c_14 => ?_) (fun c_14 => ?_)
      · refine b_iconst rfl ?_
        exact b_ireturn rfl (by first | exact Or.inl rfl | exact Or.inr rfl | exact trivial) (⟨rfl, by simp [sp_awk, h1]; first | exact fun z => c_14 (Int32.not_lt.mp (fun y => z y)) | exact Int32.not_le.mp c_14 | exact c_14⟩)
      · refine b_iconst rfl ?_
        refine b_goto rfl ?_
        exact b_ireturn rfl (by first | exact Or.inl rfl | exact Or.inr rfl | exact trivial) (⟨rfl, by simp [sp_awk, h1]; first | exact fun z => c_14 (Int32.not_lt.mp (fun y => z y)) | exact Int32.not_le.mp c_14 | exact c_14⟩)
theorem q_State_isAsleep {a p : Nat} (ha : hs_St R a) (hp : p < 4) : hn_F 1 hm_State_isAsleep [.ref a, .int (nI p)] (I, J, R) (fun r D' => D' = (I, J, R) ∧ r = some (.int (if ¬ I (a + 3) p = -1 ∧ I (a + 2) p = 0 then 1 else 0))) := by
  have ha0 := ha
  obtain ⟨ha5, k0, k1, k2, k3, k4, r0, r1, r2, r3⟩ := ha
  refine hn_F_of _ hk_State_isAsleep rfl (Nat.le_of_ble_eq_true rfl) ?_
  by_cases h1 : I (a + 3) p = -1
  · refine b_aload_n rfl rfl ?_
    refine b_iload_n rfl rfl ?_
    refine b_callV rfl rfl hk_State_isLying rfl rfl rfl (by first | rfl | assumption) rfl (Nat.le_of_ble_eq_true rfl) (q_State_isLying ha0 hp) (Nat.le_of_ble_eq_true rfl) (fun r_2 D_2 q_2 => ?_)
    obtain ⟨rfl, hq⟩ := q_2
    rw [if_pos h1] at hq
    subst hq
    refine b_if_eq rfl (fun c_5 => ?_) (fun c_5 => ?_)
    · refine b_iconst rfl ?_
      exact b_ireturn rfl (by first | exact Or.inl rfl | exact Or.inr rfl | exact trivial) (⟨rfl, by simp [h1]⟩)
    · exact absurd rfl c_5
  · refine b_aload_n rfl rfl ?_
    refine b_iload_n rfl rfl ?_
    refine b_callV rfl rfl hk_State_isLying rfl rfl rfl (by first | rfl | assumption) rfl (Nat.le_of_ble_eq_true rfl) (q_State_isLying ha0 hp) (Nat.le_of_ble_eq_true rfl) (fun r_2 D_2 q_2 => ?_)
    obtain ⟨rfl, hq⟩ := q_2
    rw [if_neg h1] at hq
    subst hq
    refine b_if_eq rfl (fun c_5 => ?_) (fun c_5 => ?_)
    · exact absurd c_5 (by decide)
    · refine b_aload_n rfl rfl ?_
      refine b_getR rfl (by first | rfl | assumption) rfl (by assumption) ?_
      refine b_iload_n rfl rfl ?_
      refine b_iaload rfl (by first | rfl | assumption) (by first | assumption | exact nI_toInt (by omega) | exact hi_l0 | exact hi_l1 | exact hi_l2 | exact hi_l3 | exact hi_l4 | exact hi_l5 | exact hi_l6) (by omega) ?_
      refine b_if_ne rfl (fun c_14 => ?_) (fun c_14 => ?_)
      · refine b_iconst rfl ?_
        exact b_ireturn rfl (by first | exact Or.inl rfl | exact Or.inr rfl | exact trivial) (⟨rfl, by simp [h1, c_14]⟩)
      · refine b_iconst rfl ?_
        refine b_goto rfl ?_
        exact b_ireturn rfl (by first | exact Or.inl rfl | exact Or.inr rfl | exact trivial) (⟨rfl, by simp [h1, c_14]⟩)
theorem q_State_waking {a p : Nat} (ha : hs_St R a) (hp : p < 4) : hn_F 2 hm_State_waking [.ref a, .int (nI p)] (I, J, R) (fun r D' => D' = (I, J, R) ∧ r = some (.int (if I (a + 3) p = -1 then 0 else if sp_awk (I (a + 2)) (I (a + 3)) p then 2 else 1))) := by
  have ha0 := ha
  obtain ⟨ha5, k0, k1, k2, k3, k4, r0, r1, r2, r3⟩ := ha
  refine hn_F_of _ hk_State_waking rfl (Nat.le_of_ble_eq_true rfl) ?_
  by_cases h1 : I (a + 3) p = -1
  · refine b_aload_n rfl rfl ?_
    refine b_iload_n rfl rfl ?_
    refine b_callV rfl rfl hk_State_isLying rfl rfl rfl (by first | rfl | assumption) rfl (Nat.le_of_ble_eq_true rfl) (q_State_isLying ha0 hp) (Nat.le_of_ble_eq_true rfl) (fun r_2 D_2 q_2 => ?_)
    obtain ⟨rfl, hq⟩ := q_2
    rw [if_pos h1] at hq
    subst hq
    refine b_if_ne rfl (fun c_5 => ?_) (fun c_5 => ?_)
    · exact absurd rfl c_5
    · refine b_iconst rfl ?_
      exact b_ireturn rfl trivial (⟨rfl, by simp [h1]⟩)
  · by_cases h2 : sp_awk (I (a + 2)) (I (a + 3)) p
    · refine b_aload_n rfl rfl ?_
      refine b_iload_n rfl rfl ?_
      refine b_callV rfl rfl hk_State_isLying rfl rfl rfl (by first | rfl | assumption) rfl (Nat.le_of_ble_eq_true rfl) (q_State_isLying ha0 hp) (Nat.le_of_ble_eq_true rfl) (fun r_2 D_2 q_2 => ?_)
      obtain ⟨rfl, hq⟩ := q_2
      rw [if_neg h1] at hq
      subst hq
      refine b_if_ne rfl (fun c_5 => ?_) (fun c_5 => ?_)
      · refine b_aload_n rfl rfl ?_
        refine b_iload_n rfl rfl ?_
        refine b_callV rfl rfl hk_State_isAwake rfl rfl rfl (by first | rfl | assumption) rfl (Nat.le_of_ble_eq_true rfl) (q_State_isAwake ha0 hp) (Nat.le_of_ble_eq_true rfl) (fun r_12 D_12 q_12 => ?_)
        obtain ⟨rfl, hq⟩ := q_12
        rw [if_pos h2] at hq
        subst hq
        refine b_if_eq rfl (fun c_15 => ?_) (fun c_15 => ?_)
        · exact absurd c_15 (by decide)
        · refine b_iconst rfl ?_
          refine b_goto rfl ?_
          exact b_ireturn rfl trivial (⟨rfl, by rw [if_neg h1, if_pos h2]⟩)
      · exact absurd c_5 (by decide)
    · refine b_aload_n rfl rfl ?_
      refine b_iload_n rfl rfl ?_
      refine b_callV rfl rfl hk_State_isLying rfl rfl rfl (by first | rfl | assumption) rfl (Nat.le_of_ble_eq_true rfl) (q_State_isLying ha0 hp) (Nat.le_of_ble_eq_true rfl) (fun r_2 D_2 q_2 => ?_)
      obtain ⟨rfl, hq⟩ := q_2
      rw [if_neg h1] at hq
      subst hq
      refine b_if_ne rfl (fun c_5 => ?_) (fun c_5 => ?_)
      · refine b_aload_n rfl rfl ?_
        refine b_iload_n rfl rfl ?_
        refine b_callV rfl rfl hk_State_isAwake rfl rfl rfl (by first | rfl | assumption) rfl (Nat.le_of_ble_eq_true rfl) (q_State_isAwake ha0 hp) (Nat.le_of_ble_eq_true rfl) (fun r_12 D_12 q_12 => ?_)
        obtain ⟨rfl, hq⟩ := q_12
        rw [if_neg h2] at hq
        subst hq
        refine b_if_eq rfl (fun c_15 => ?_) (fun c_15 => ?_)
        · refine b_iconst rfl ?_
          exact b_ireturn rfl trivial (⟨rfl, by rw [if_neg h1, if_neg h2]⟩)
        · exact absurd rfl c_15
      · exact absurd c_5 (by decide)
theorem q_State_lyingAt {a np : Nat} {k : Int32} (ha : hs_St R a) (hnp : I a 4 = nI np) (hn4 : np ≤ 4) : hn_F 0 hm_State_lyingAt [.ref a, .int k] (I, J, R) (fun r D' => D' = (I, J, R) ∧ r = some (.int (sp_lyingAt (I (a + 3)) k np))) := by
  obtain ⟨ha5, k0, k1, k2, k3, k4, r0, r1, r2, r3⟩ := ha
  refine hn_F_of _ hk_State_lyingAt rfl (Nat.le_of_ble_eq_true rfl) ?_
  refine b_iconst rfl ?_
  refine b_istore_n rfl (Nat.le_of_ble_eq_true rfl) ?_
  refine b_iconst rfl ?_
  refine b_istore_n rfl (Nat.le_of_ble_eq_true rfl) ?_
  refine b_eq (sp_ind np (fun p => hn_B 0 hm_State_lyingAt _ 4 [.ref a, .int k, .int (sp_lyingAt (I (a + 3)) k p), .int (nI p)] [] (I, J, R)) ?_ ?_) (by rw [nI_0]; rfl) rfl rfl
  · refine b_iload_n rfl rfl ?_
    refine b_aload_n rfl rfl ?_
    refine b_getI rfl (by first | rfl | assumption) rfl ?_
    refine b_icmp_ge rfl (fun c_9 => ?_) (fun c_9 => ?_)
    · refine b_iload_n rfl rfl ?_
      exact b_ireturn rfl trivial (⟨rfl, rfl⟩)
    · exact absurd (by rw [hnp]; exact nI_le (Nat.le_refl _) (by omega)) c_9
  · intro p hp ih
    refine b_iload_n rfl rfl ?_
    refine b_aload_n rfl rfl ?_
    refine b_getI rfl (by first | rfl | assumption) rfl ?_
    refine b_icmp_ge rfl (fun c_9 => ?_) (fun c_9 => ?_)
    · exact absurd (by rw [← hnp]; exact c_9) (nI_ge hp (by omega))
    · refine b_aload_n rfl rfl ?_
      refine b_getR rfl (by first | rfl | assumption) rfl (by assumption) ?_
      refine b_iload_n rfl rfl ?_
      refine b_iaload rfl (by first | rfl | assumption) (by first | assumption | exact nI_toInt (by omega) | exact hi_l0 | exact hi_l1 | exact hi_l2 | exact hi_l3 | exact hi_l4 | exact hi_l5 | exact hi_l6) (by omega) ?_
      refine b_iload_n rfl rfl ?_
      refine b_icmp_ne rfl (fun c_19 => ?_) (fun c_19 => ?_)
      · refine b_iinc rfl rfl (Nat.le_of_ble_eq_true rfl) ?_
        refine b_goto rfl ?_
        exact b_eq ih (by simp only [nI_succ, sp_lyingAt, sp_up, if_pos, if_neg, c_19, if_true, if_false, not_false_eq_true]; rfl) rfl rfl
      · refine b_iload_n rfl rfl ?_
        refine b_iconst rfl ?_
        refine b_iload_n rfl rfl ?_
        refine b_ishl rfl ?_
        refine b_ior rfl ?_
        refine b_istore_n rfl (Nat.le_of_ble_eq_true rfl) ?_
        refine b_iinc rfl rfl (Nat.le_of_ble_eq_true rfl) ?_
        refine b_goto rfl ?_
        exact b_eq ih (by simp only [nI_succ, sp_lyingAt, sp_up, if_pos, if_neg, c_19, if_true, if_false, not_false_eq_true]; rfl) rfl rfl
theorem q_State_lying {a np : Nat} (ha : hs_St R a) (hnp : I a 4 = nI np) (hn4 : np ≤ 4) : hn_F 1 hm_State_lying [.ref a] (I, J, R) (fun r D' => D' = (I, J, R) ∧ r = some (.int (sp_lying (I (a + 3)) np))) := by
  have ha0 := ha
  obtain ⟨ha5, k0, k1, k2, k3, k4, r0, r1, r2, r3⟩ := ha
  refine hn_F_of _ hk_State_lying rfl (Nat.le_of_ble_eq_true rfl) ?_
  refine b_iconst rfl ?_
  refine b_aload_n rfl rfl ?_
  refine b_getI rfl (by first | rfl | assumption) rfl ?_
  refine b_ishl rfl ?_
  refine b_iconst rfl ?_
  refine b_isub rfl ?_
  refine b_aload_n rfl rfl ?_
  refine b_iconst rfl ?_
  refine b_callV rfl rfl hk_State_lyingAt rfl rfl rfl (by first | rfl | assumption) rfl (Nat.le_of_ble_eq_true rfl) (q_State_lyingAt ha0 hnp hn4) (Nat.le_of_ble_eq_true rfl) (fun r_10 D_10 q_10 => ?_)
  obtain ⟨rfl, rfl⟩ := q_10
  refine b_iconst rfl ?_
  refine b_ixor rfl ?_
  refine b_iand rfl ?_
  exact b_ireturn rfl trivial (⟨rfl, by rw [hnp]; rfl⟩)
theorem q_State_awake {a np : Nat} (ha : hs_St R a) (hnp : I a 4 = nI np) (hn4 : np ≤ 4) : hn_F 2 hm_State_awake [.ref a] (I, J, R) (fun r D' => D' = (I, J, R) ∧ r = some (.int (sp_awake (I (a + 2)) (I (a + 3)) np))) := by
  have ha0 := ha
  obtain ⟨ha5, k0, k1, k2, k3, k4, r0, r1, r2, r3⟩ := ha
  refine hn_F_of _ hk_State_awake rfl (Nat.le_of_ble_eq_true rfl) ?_
  refine b_iconst rfl ?_
  refine b_istore_n rfl (Nat.le_of_ble_eq_true rfl) ?_
  refine b_iconst rfl ?_
  refine b_istore_n rfl (Nat.le_of_ble_eq_true rfl) ?_
  refine b_eq (sp_ind np (fun p => hn_B 2 hm_State_awake _ 4 [.ref a, .int (sp_awake (I (a + 2)) (I (a + 3)) p), .int (nI p)] [] (I, J, R)) ?_ ?_) (by rw [nI_0]; rfl) rfl rfl
  · refine b_iload_n rfl rfl ?_
    refine b_aload_n rfl rfl ?_
    refine b_getI rfl (by first | rfl | assumption) rfl ?_
    refine b_icmp_ge rfl (fun c_9 => ?_) (fun c_9 => ?_)
    · refine b_iload_n rfl rfl ?_
      exact b_ireturn rfl trivial (⟨rfl, rfl⟩)
    · exact absurd (by rw [hnp]; exact nI_le (Nat.le_refl _) (by omega)) c_9
  · intro p hp ih
    by_cases h1 : sp_awk (I (a + 2)) (I (a + 3)) p
    · refine b_iload_n rfl rfl ?_
      refine b_aload_n rfl rfl ?_
      refine b_getI rfl (by first | rfl | assumption) rfl ?_
      refine b_icmp_ge rfl (fun c_9 => ?_) (fun c_9 => ?_)
      · exact absurd (by rw [← hnp]; exact c_9) (nI_ge hp (by omega))
      · refine b_aload_n rfl rfl ?_
        refine b_iload_n rfl rfl ?_
        refine b_callV rfl rfl hk_State_isAwake rfl rfl rfl (by first | rfl | assumption) rfl (Nat.le_of_ble_eq_true rfl) (q_State_isAwake ha0 (show p < 4 by omega)) (Nat.le_of_ble_eq_true rfl) (fun r_14 D_14 q_14 => ?_)
        obtain ⟨rfl, hq⟩ := q_14
        rw [if_pos h1] at hq
        subst hq
        refine b_if_eq rfl (fun c_17 => ?_) (fun c_17 => ?_)
        · exact absurd c_17 (by decide)
        · refine b_iload_n rfl rfl ?_
          refine b_iconst rfl ?_
          refine b_iload_n rfl rfl ?_
          refine b_ishl rfl ?_
          refine b_ior rfl ?_
          refine b_istore_n rfl (Nat.le_of_ble_eq_true rfl) ?_
          refine b_iinc rfl rfl (Nat.le_of_ble_eq_true rfl) ?_
          refine b_goto rfl ?_
          exact b_eq ih (by simp only [nI_succ, sp_awake, sp_up, if_pos h1]; rfl) rfl rfl
    · refine b_iload_n rfl rfl ?_
      refine b_aload_n rfl rfl ?_
      refine b_getI rfl (by first | rfl | assumption) rfl ?_
      refine b_icmp_ge rfl (fun c_9 => ?_) (fun c_9 => ?_)
      · exact absurd (by rw [← hnp]; exact c_9) (nI_ge hp (by omega))
      · refine b_aload_n rfl rfl ?_
        refine b_iload_n rfl rfl ?_
        refine b_callV rfl rfl hk_State_isAwake rfl rfl rfl (by first | rfl | assumption) rfl (Nat.le_of_ble_eq_true rfl) (q_State_isAwake ha0 (show p < 4 by omega)) (Nat.le_of_ble_eq_true rfl) (fun r_14 D_14 q_14 => ?_)
        obtain ⟨rfl, hq⟩ := q_14
        rw [if_neg h1] at hq
        subst hq
        refine b_if_eq rfl (fun c_17 => ?_) (fun c_17 => ?_)
        · refine b_iinc rfl rfl (Nat.le_of_ble_eq_true rfl) ?_
          refine b_goto rfl ?_
          exact b_eq ih (by simp only [nI_succ, sp_awake, sp_up, if_neg h1]; rfl) rfl rfl
        · exact absurd rfl c_17
theorem q_State_willOfAll {a np : Nat} (ha : hs_St R a) (hnp : I a 4 = nI np) (hn4 : np ≤ 4) : hn_F 0 hm_State_willOfAll [.ref a] (I, J, R) (fun r D' => D' = (I, J, R) ∧ r = some (.int (sp_wills (I (a + 2)) np))) := by
  obtain ⟨ha5, k0, k1, k2, k3, k4, r0, r1, r2, r3⟩ := ha
  refine hn_F_of _ hk_State_willOfAll rfl (Nat.le_of_ble_eq_true rfl) ?_
  refine b_iconst rfl ?_
  refine b_istore_n rfl (Nat.le_of_ble_eq_true rfl) ?_
  refine b_iconst rfl ?_
  refine b_istore_n rfl (Nat.le_of_ble_eq_true rfl) ?_
  refine b_eq (sp_ind np (fun p => hn_B 0 hm_State_willOfAll _ 4 [.ref a, .int (sp_wills (I (a + 2)) p), .int (nI p)] [] (I, J, R)) ?_ ?_) (by rw [nI_0]; rfl) rfl rfl
  · refine b_iload_n rfl rfl ?_
    refine b_aload_n rfl rfl ?_
    refine b_getI rfl (by first | rfl | assumption) rfl ?_
    refine b_icmp_ge rfl (fun c_9 => ?_) (fun c_9 => ?_)
    · refine b_iload_n rfl rfl ?_
      exact b_ireturn rfl trivial (⟨rfl, rfl⟩)
    · exact absurd (by rw [hnp]; exact nI_le (Nat.le_refl _) (by omega)) c_9
  · intro p hp ih
    refine b_iload_n rfl rfl ?_
    refine b_aload_n rfl rfl ?_
    refine b_getI rfl (by first | rfl | assumption) rfl ?_
    refine b_icmp_ge rfl (fun c_9 => ?_) (fun c_9 => ?_)
    · exact absurd (by rw [← hnp]; exact c_9) (nI_ge hp (by omega))
    · refine b_iload_n rfl rfl ?_
      refine b_aload_n rfl rfl ?_
      refine b_getR rfl (by first | rfl | assumption) rfl (by assumption) ?_
      refine b_iload_n rfl rfl ?_
      refine b_iaload rfl (by first | rfl | assumption) (by first | assumption | exact nI_toInt (by omega) | exact hi_l0 | exact hi_l1 | exact hi_l2 | exact hi_l3 | exact hi_l4 | exact hi_l5 | exact hi_l6) (by omega) ?_
      refine b_iadd rfl ?_
      refine b_istore_n rfl (Nat.le_of_ble_eq_true rfl) ?_
      refine b_iinc rfl rfl (Nat.le_of_ble_eq_true rfl) ?_
      refine b_goto rfl ?_
      exact b_eq ih (by simp only [nI_succ, sp_wills, sp_up]; rfl) rfl rfl
theorem q_State_leaveOne {a : Nat} {w k : Int32} (ha : hs_St R a) : hn_F 0 hm_State_leaveOne [.ref a, .int w, .int k] (I, J, R) (fun r D' => r = none ∧ D' = (hn_u (hn_u (hn_u (hn_u I a 4 1) (a + 2) 0 w) (a + 3) 0 k) (a + 4) 0 0, J, R)) := by
  obtain ⟨ha5, k0, k1, k2, k3, k4, r0, r1, r2, r3⟩ := ha
  refine hn_F_of _ hk_State_leaveOne rfl (Nat.le_of_ble_eq_true rfl) ?_
  refine b_aload_n rfl rfl ?_
  refine b_iconst rfl ?_
  refine b_putI rfl (by first | rfl | assumption) rfl rfl ⟨rfl, rfl⟩ ?_
  refine b_aload_n rfl rfl ?_
  refine b_getR rfl (by first | rfl | assumption) rfl (by assumption) ?_
  refine b_iconst rfl ?_
  refine b_iload_n rfl rfl ?_
  refine b_iastore rfl (by first | rfl | assumption) (by first | assumption | exact nI_toInt (by omega) | exact hi_l0 | exact hi_l1 | exact hi_l2 | exact hi_l3 | exact hi_l4 | exact hi_l5 | exact hi_l6) (by omega) ?_
  refine b_aload_n rfl rfl ?_
  refine b_getR rfl (by first | rfl | assumption) rfl (by assumption) ?_
  refine b_iconst rfl ?_
  refine b_iload_n rfl rfl ?_
  refine b_iastore rfl (by first | rfl | assumption) (by first | assumption | exact nI_toInt (by omega) | exact hi_l0 | exact hi_l1 | exact hi_l2 | exact hi_l3 | exact hi_l4 | exact hi_l5 | exact hi_l6) (by omega) ?_
  refine b_aload_n rfl rfl ?_
  refine b_getR rfl (by first | rfl | assumption) rfl (by assumption) ?_
  refine b_iconst rfl ?_
  refine b_iconst rfl ?_
  refine b_iastore rfl (by first | rfl | assumption) (by first | assumption | exact nI_toInt (by omega) | exact hi_l0 | exact hi_l1 | exact hi_l2 | exact hi_l3 | exact hi_l4 | exact hi_l5 | exact hi_l6) (by omega) ?_
  exact b_return_ rfl trivial (⟨rfl, rfl⟩)
theorem q_State_canGo {a p k : Nat} (ha : hs_St R a) (hp : p < 4) (hpl : I (a + 3) p = -1 ∨ ∃ q, q < 8 ∧ I (a + 3) p = nI q) : hn_F 2 hm_State_canGo [.ref a, .int (nI p), .int (nI k)] (I, J, R) (fun r D' => D' = (I, J, R) ∧ r = some (.int (if sp_awk (I (a + 2)) (I (a + 3)) p ∧ sp_bit (I (a + 1) (I (a + 3) p).toNatClampNeg) k then 1 else 0))) := by
  have ha0 := ha
  obtain ⟨ha5, k0, k1, k2, k3, k4, r0, r1, r2, r3⟩ := ha
  refine hn_F_of _ hk_State_canGo rfl (Nat.le_of_ble_eq_true rfl) ?_
  by_cases h1 : sp_awk (I (a + 2)) (I (a + 3)) p
  · obtain ⟨q, hq, hpq⟩ : ∃ q, q < 8 ∧ I (a + 3) p = nI q := by
      rcases hpl with h | h
      · exact absurd h h1.1
      · exact h
    have hix : (I (a + 3) p).toInt = (q : Int) := by rw [hpq]; exact nI_toInt (by omega)
    have hix2 : (I (a + 3) p).toNatClampNeg = q := by rw [hpq]; exact nI_clamp (by omega)
    refine b_aload_n rfl rfl ?_
    refine b_iload_n rfl rfl ?_
    refine b_callV rfl rfl hk_State_isAwake rfl rfl rfl (by first | rfl | assumption) rfl (Nat.le_of_ble_eq_true rfl) (q_State_isAwake ha0 hp) (Nat.le_of_ble_eq_true rfl) (fun r_2 D_2 q_2 => ?_)
    obtain ⟨rfl, hq⟩ := q_2
    rw [if_pos h1] at hq
    subst hq
    refine b_if_eq rfl (fun c_5 => ?_) (fun c_5 => ?_)
    · exact absurd c_5 (by decide)
    · refine b_aload_n rfl rfl ?_
      refine b_getR rfl (by first | rfl | assumption) rfl (by assumption) ?_
      refine b_aload_n rfl rfl ?_
      refine b_getR rfl (by first | rfl | assumption) rfl (by assumption) ?_
      refine b_iload_n rfl rfl ?_
      refine b_iaload rfl (by first | rfl | assumption) (by first | assumption | exact nI_toInt (by omega) | exact hi_l0 | exact hi_l1 | exact hi_l2 | exact hi_l3 | exact hi_l4 | exact hi_l5 | exact hi_l6) (by omega) ?_
      refine b_iaload rfl (by first | rfl | assumption) hix (by omega) ?_
      refine b_iload_n rfl rfl ?_
      refine b_ishr rfl ?_
      refine b_iconst rfl ?_
      refine b_iand rfl ?_
      refine b_if_eq rfl (fun c_23 => ?_) (fun c_23 => ?_)
      · refine b_iconst rfl ?_
        exact b_ireturn rfl (by first | exact Or.inl rfl | exact Or.inr rfl | exact trivial) (⟨rfl, by simp [h1, hix2, sp_bit, c_23]⟩)
      · refine b_iconst rfl ?_
        refine b_goto rfl ?_
        exact b_ireturn rfl (by first | exact Or.inl rfl | exact Or.inr rfl | exact trivial) (⟨rfl, by simp [h1, hix2, sp_bit, c_23]⟩)
  · refine b_aload_n rfl rfl ?_
    refine b_iload_n rfl rfl ?_
    refine b_callV rfl rfl hk_State_isAwake rfl rfl rfl (by first | rfl | assumption) rfl (Nat.le_of_ble_eq_true rfl) (q_State_isAwake ha0 hp) (Nat.le_of_ble_eq_true rfl) (fun r_2 D_2 q_2 => ?_)
    obtain ⟨rfl, hq⟩ := q_2
    rw [if_neg h1] at hq
    subst hq
    refine b_if_eq rfl (fun c_5 => ?_) (fun c_5 => ?_)
    · refine b_iconst rfl ?_
      exact b_ireturn rfl (by first | exact Or.inl rfl | exact Or.inr rfl | exact trivial) (⟨rfl, by rw [if_neg (fun z => h1 z.1)]⟩)
    · exact absurd rfl c_5
end HNstate
