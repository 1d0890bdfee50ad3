section HNnet
variable {I : Nat → Nat → Int32} {J : Nat → Nat → Int64} {R : Nat → Nat → Option Nat}
/-- bits counted as the JDK counts them -/
def bc_u (x : Int32) (y : Int32) : Int32 := (x.toUInt32 >>> (y.toUInt32 &&& Int32.toUInt32 31)).toInt32
def bc_1 (x : Int32) : Int32 := x - (bc_u x 1 &&& 1431655765)
def bc_2 (x : Int32) : Int32 := (x &&& 858993459) + (bc_u x 2 &&& 858993459)
def bc_3 (x : Int32) : Int32 := (x + bc_u x 4) &&& 252645135
def bc_4 (x : Int32) : Int32 := x + bc_u x 8
def bc_5 (x : Int32) : Int32 := x + bc_u x 16
def bc_f (x : Int32) : Int32 := bc_5 (bc_4 (bc_3 (bc_2 (bc_1 x)))) &&& 63
/-- bits counted one by one -/
def sp_pop (x : Int32) : Int32 := sp_up (fun i n => n + ((x >>> (nI i &&& 31)) &&& 1)) 0 30
theorem bc_small : ∀ i : Fin 256, bc_f (nI i) = sp_pop (nI i) := by decide +kernel
theorem q_bitCount {x : Int32} : hn_F 0 hm_JI_bitCount [.int x] (I, J, R) (fun r D' => D' = (I, J, R) ∧ r = some (.int (bc_f x))) := by
  refine hn_F_of _ hk_JI_bitCount rfl (Nat.le_of_ble_eq_true rfl) ?_
  refine b_iload_n rfl rfl ?_
  refine b_iload_n rfl rfl ?_
  refine b_iconst rfl ?_
  refine b_iushr rfl ?_
  refine b_ldc_w rfl (by decide) ?_
  refine b_iand rfl ?_
  refine b_isub rfl ?_
  refine b_istore_n rfl (Nat.le_of_ble_eq_true rfl) ?_
  refine b_iload_n rfl rfl ?_
  refine b_ldc_w rfl (by decide) ?_
  refine b_iand rfl ?_
  refine b_iload_n rfl rfl ?_
  refine b_iconst rfl ?_
  refine b_iushr rfl ?_
  refine b_ldc_w rfl (by decide) ?_
  refine b_iand rfl ?_
  refine b_iadd rfl ?_
  refine b_istore_n rfl (Nat.le_of_ble_eq_true rfl) ?_
  refine b_iload_n rfl rfl ?_
  refine b_iload_n rfl rfl ?_
  refine b_iconst rfl ?_
  refine b_iushr rfl ?_
  refine b_iadd rfl ?_
  refine b_ldc_w rfl (by decide) ?_
  refine b_iand rfl ?_
  refine b_istore_n rfl (Nat.le_of_ble_eq_true rfl) ?_
  refine b_iload_n rfl rfl ?_
  refine b_iload_n rfl rfl ?_
  refine b_bipush rfl ?_
  refine b_iushr rfl ?_
  refine b_iadd rfl ?_
  refine b_istore_n rfl (Nat.le_of_ble_eq_true rfl) ?_
  refine b_iload_n rfl rfl ?_
  refine b_iload_n rfl rfl ?_
  refine b_bipush rfl ?_
  refine b_iushr rfl ?_
  refine b_iadd rfl ?_
  refine b_istore_n rfl (Nat.le_of_ble_eq_true rfl) ?_
  refine b_iload_n rfl rfl ?_
  refine b_bipush rfl ?_
  refine b_iand rfl ?_
  exact b_ireturn rfl trivial (⟨rfl, rfl⟩)
theorem q_Net_kindOf {t k : Nat} {fm : Int32} (ht : hs_Net R t) (hk : k < 8) : hn_F 0 hm_Net_kindOf [.ref t, .int (nI k), .int fm] (I, J, R) (fun r D' => D' = (I, J, R) ∧ r = some (.int (sp_kind (I (t + 2)) fm k))) := by
  obtain ⟨ht5, n0, n1, n2, n3, n4, n5, n6, n7, n8, n9, n10, s1, s2, s3, s4, s5, s7, s8, l0, l2, l6, l7⟩ := ht
  refine hn_F_of _ hk_Net_kindOf rfl (Nat.le_of_ble_eq_true rfl) ?_
  refine b_iload_n rfl rfl ?_
  refine b_iload_n rfl rfl ?_
  refine b_ishr rfl ?_
  refine b_iconst rfl ?_
  refine b_iand rfl ?_
  refine b_if_eq rfl (fun c_5 => ?_) (fun c_5 => ?_)
  · refine b_aload_n rfl rfl ?_
    refine b_getR rfl (by first | rfl | assumption) rfl (by assumption) ?_
    refine b_iload_n rfl rfl ?_
    refine b_iaload rfl (by first | rfl | assumption) (by first | assumption | exact nI_toInt (by omega) | exact hi_l0 | exact hi_l1 | exact hi_l2 | exact hi_l3 | exact hi_l4 | exact hi_l5 | exact hi_l6) (by omega) ?_
    exact b_ireturn rfl trivial (⟨rfl, by simp [sp_kind, sp_bit, c_5]⟩)
  · refine b_iconst rfl ?_
    refine b_goto rfl ?_
    exact b_ireturn rfl trivial (⟨rfl, by simp [sp_kind, sp_bit, c_5]⟩)
theorem q_Net_letsThrough {t k : Nat} {wl fm : Int32} (ht : hs_Net R t) (hk : k < 8) : hn_F 1 hm_Net_letsThrough [.ref t, .int (nI k), .int wl, .int fm] (I, J, R) (fun r D' => D' = (I, J, R) ∧ r = some (.int (if sp_fall (I (t + 2)) (I (t + 3)) fm k wl then 1 else 0))) := by
  have ht0 := ht
  obtain ⟨ht5, n0, n1, n2, n3, n4, n5, n6, n7, n8, n9, n10, s1, s2, s3, s4, s5, s7, s8, l0, l2, l6, l7⟩ := ht
  refine hn_F_of _ hk_Net_letsThrough rfl (Nat.le_of_ble_eq_true rfl) ?_
  refine b_aload_n rfl rfl ?_
  refine b_iload_n rfl rfl ?_
  refine b_iload_n rfl rfl ?_
  refine b_callV rfl rfl hk_Net_kindOf rfl rfl rfl (by first | rfl | assumption) rfl (Nat.le_of_ble_eq_true rfl) (q_Net_kindOf ht0 hk) (Nat.le_of_ble_eq_true rfl) (fun r_3 D_3 q_3 => ?_)
  obtain ⟨rfl, rfl⟩ := q_3
  refine b_iconst rfl ?_
  refine b_icmp_ne rfl (fun c_7 => ?_) (fun c_7 => ?_)
  · refine b_iconst rfl ?_
    exact b_ireturn rfl (by first | exact Or.inl rfl | exact Or.inr rfl | exact trivial) (⟨rfl, by first | rw [if_neg (fun z => c_7 z.1)] | rw [if_neg (fun z => Int32.not_lt.mpr c_17 z.2)] | rw [if_pos ⟨c_7, Int32.not_le.mp c_17⟩]⟩)
  · refine b_aload_n rfl rfl ?_
    refine b_getR rfl (by first | rfl | assumption) rfl (by assumption) ?_
    refine b_iload_n rfl rfl ?_
    refine b_iaload rfl (by first | rfl | assumption) (by first | assumption | exact nI_toInt (by omega) | exact hi_l0 | exact hi_l1 | exact hi_l2 | exact hi_l3 | exact hi_l4 | exact hi_l5 | exact hi_l6) (by omega) ?_
    refine b_iload_n rfl rfl ?_
    refine b_icmp_ge rfl (fun c_17 => ?_) (fun c_17 => ?_)
    · refine b_iconst rfl ?_
      exact b_ireturn rfl (by first | exact Or.inl rfl | exact Or.inr rfl | exact trivial) (⟨rfl, by first | rw [if_neg (fun z => c_7 z.1)] | rw [if_neg (fun z => Int32.not_lt.mpr c_17 z.2)] | rw [if_pos ⟨c_7, Int32.not_le.mp c_17⟩]⟩)
    · refine b_iconst rfl ?_
      refine b_goto rfl ?_
      exact b_ireturn rfl (by first | exact Or.inl rfl | exact Or.inr rfl | exact trivial) (⟨rfl, by first | rw [if_neg (fun z => c_7 z.1)] | rw [if_neg (fun z => Int32.not_lt.mpr c_17 z.2)] | rw [if_pos ⟨c_7, Int32.not_le.mp c_17⟩]⟩)
theorem q_Net_allKnots {t n : Nat} (ht : hs_Net R t) (hn : I t 0 = nI n) : hn_F 0 hm_Net_allKnots [.ref t] (I, J, R) (fun r D' => D' = (I, J, R) ∧ r = some (.int (((1 : Int32) <<< (nI n &&& 31)) - 1))) := by
  obtain ⟨ht5, n0, n1, n2, n3, n4, n5, n6, n7, n8, n9, n10, s1, s2, s3, s4, s5, s7, s8, l0, l2, l6, l7⟩ := ht
  refine hn_F_of _ hk_Net_allKnots rfl (Nat.le_of_ble_eq_true rfl) ?_
  refine b_iconst rfl ?_
  refine b_aload_n rfl rfl ?_
  refine b_getI rfl (by first | rfl | assumption) rfl ?_
  refine b_ishl rfl ?_
  refine b_iconst rfl ?_
  refine b_isub rfl ?_
  exact b_ireturn rfl trivial (⟨rfl, by rw [hn]⟩)
def sp_slips (kd : Nat → Int32) (n : Nat) : Int32 := sp_up (fun k s => if kd k = 2 then s ||| ((1 : Int32) <<< (nI k &&& 31)) else s) 0 n
theorem q_Net_slips {t n : Nat} (ht : hs_Net R t) (hn : I t 0 = nI n) (hn8 : n ≤ 8) : hn_F 0 hm_Net_slips [.ref t] (I, J, R) (fun r D' => D' = (I, J, R) ∧ r = some (.int (sp_slips (I (t + 2)) n))) := by
  obtain ⟨ht5, n0, n1, n2, n3, n4, n5, n6, n7, n8, n9, n10, s1, s2, s3, s4, s5, s7, s8, l0, l2, l6, l7⟩ := ht
  refine hn_F_of _ hk_Net_slips rfl (Nat.le_of_ble_eq_true rfl) ?_
  refine b_iconst rfl ?_
  refine b_istore_n rfl (Nat.le_of_ble_eq_true rfl) ?_
  refine b_iconst rfl ?_
  refine b_istore_n rfl (Nat.le_of_ble_eq_true rfl) ?_
  refine b_eq (sp_ind n (fun k => hn_B 0 hm_Net_slips _ 4 [.ref t, .int (sp_slips (I (t + 2)) k), .int (nI k)] [] (I, J, R)) ?_ ?_) (by rw [nI_0]; rfl) rfl rfl
  · refine b_iload_n rfl rfl ?_
    refine b_aload_n rfl rfl ?_
    refine b_getI rfl (by first | rfl | assumption) rfl ?_
    refine b_icmp_ge rfl (fun c_9 => ?_) (fun c_9 => ?_)
    · refine b_iload_n rfl rfl ?_
      exact b_ireturn rfl trivial (⟨rfl, rfl⟩)
    · exact absurd (by rw [hn]; exact nI_le (Nat.le_refl _) (by omega)) c_9
  · intro p hp ih
    refine b_iload_n rfl rfl ?_
    refine b_aload_n rfl rfl ?_
    refine b_getI rfl (by first | rfl | assumption) rfl ?_
    refine b_icmp_ge rfl (fun c_9 => ?_) (fun c_9 => ?_)
    · exact absurd (by rw [← hn]; exact c_9) (nI_ge hp (by omega))
    · refine b_aload_n rfl rfl ?_
      refine b_getR rfl (by first | rfl | assumption) rfl (by assumption) ?_
      refine b_iload_n rfl rfl ?_
      refine b_iaload rfl (by first | rfl | assumption) (by first | assumption | exact nI_toInt (by omega) | exact hi_l0 | exact hi_l1 | exact hi_l2 | exact hi_l3 | exact hi_l4 | exact hi_l5 | exact hi_l6) (by omega) ?_
      refine b_iconst rfl ?_
      refine b_icmp_ne rfl (fun c_19 => ?_) (fun c_19 => ?_)
      · refine b_iinc rfl rfl (Nat.le_of_ble_eq_true rfl) ?_
        refine b_goto rfl ?_
        exact b_eq ih (by simp only [nI_succ, sp_slips, sp_up, c_19, if_true, if_false]; rfl) rfl rfl
      · refine b_iload_n rfl rfl ?_
        refine b_iconst rfl ?_
        refine b_iload_n rfl rfl ?_
        refine b_ishl rfl ?_
        refine b_ior rfl ?_
        refine b_istore_n rfl (Nat.le_of_ble_eq_true rfl) ?_
        refine b_iinc rfl rfl (Nat.le_of_ble_eq_true rfl) ?_
        refine b_goto rfl ?_
        exact b_eq ih (by simp only [nI_succ, sp_slips, sp_up, c_19, if_true, if_false]; rfl) rfl rfl
theorem sp_pick_lt (hd : Nat → Int32) (s : Int32) (least : Prop) [Decidable least] : ∀ n j, sp_pick hd s least n = some j → j < n
  | 0, j, h => by cases h
  | n + 1, j, h => by
    have ih := sp_pick_lt hd s least n
    simp only [sp_pick, sp_up] at h ih
    generalize sp_up (fun k b => if sp_bit s k then (match b with | none => some k | some j => if (if least then hd k < hd j else hd j < hd k) then some k else some j) else b) none n = b at h ih
    split at h
    · cases b with
      | none => simp at h; omega
      | some i =>
        simp only at h
        have := ih i rfl
        have h2 : j = n ∨ j = i := by
          by_cases hq : (if least then hd n < hd i else hd i < hd n)
          · rw [if_pos hq] at h; exact Or.inl (Option.some.inj h).symm
          · rw [if_neg hq] at h; exact Or.inr (Option.some.inj h).symm
        omega
    · have := ih j h; omega
theorem q_Net_pick {t n : Nat} {s b : Int32} (least : Prop) [Decidable least] (ht : hs_Net R t) (hn : I t 0 = nI n) (hn8 : n ≤ 8) (hb : b = if least then 1 else 0) : hn_F 0 hm_Net_pick [.ref t, .int s, .int b] (I, J, R) (fun r D' => D' = (I, J, R) ∧ r = some (.int (sp_enc (sp_pick (I (t + 3)) s least n)))) := by
  obtain ⟨ht5, n0, n1, n2, n3, n4, n5, n6, n7, n8, n9, n10, s1, s2, s3, s4, s5, s7, s8, l0, l2, l6, l7⟩ := ht
  refine hn_F_of _ hk_Net_pick rfl (Nat.le_of_ble_eq_true rfl) ?_
  refine b_iconst rfl ?_
  refine b_istore_n rfl (Nat.le_of_ble_eq_true rfl) ?_
  refine b_iconst rfl ?_
  refine b_istore rfl (Nat.le_of_ble_eq_true rfl) ?_
  refine b_eq (sp_ind n (fun k => hn_B 0 hm_Net_pick _ 5 [.ref t, .int s, .int b, .int (sp_enc (sp_pick (I (t + 3)) s least k)), .int (nI k)] [] (I, J, R)) ?_ ?_) (by rw [nI_0]; rfl) rfl rfl
  · refine b_iload rfl rfl ?_
    refine b_aload_n rfl rfl ?_
    refine b_getI rfl (by first | rfl | assumption) rfl ?_
    refine b_icmp_ge rfl (fun c_11 => ?_) (fun c_11 => ?_)
    · refine b_iload_n rfl rfl ?_
      exact b_ireturn rfl trivial (⟨rfl, rfl⟩)
    · exact absurd (by rw [hn]; exact nI_le (Nat.le_refl _) (by omega)) c_11
  · intro k hk ih
    have e1 : sp_pick (I (t + 3)) s least (k + 1) = if sp_bit s k then (match sp_pick (I (t + 3)) s least k with | none => some k | some j => if (if least then I (t + 3) k < I (t + 3) j else I (t + 3) j < I (t + 3) k) then some k else some j) else sp_pick (I (t + 3)) s least k := rfl
    have hlt := sp_pick_lt (I (t + 3)) s least k
    generalize sp_pick (I (t + 3)) s least k = o at e1 hlt ih
    rw [e1] at ih
    cases o with
    | none =>
      refine b_iload rfl rfl ?_
      refine b_aload_n rfl rfl ?_
      refine b_getI rfl (by first | rfl | assumption) rfl ?_
      refine b_icmp_ge rfl (fun c_11 => ?_) (fun c_11 => ?_)
      · exact absurd (by rw [← hn]; exact c_11) (nI_ge hk (by omega))
      · refine b_iload_n rfl rfl ?_
        refine b_iload rfl rfl ?_
        refine b_ishr rfl ?_
        refine b_iconst rfl ?_
        refine b_iand rfl ?_
        refine b_if_ne rfl (fun c_20 => ?_) (fun c_20 => ?_)
        · refine b_iload_n rfl rfl ?_
          refine b_iconst rfl ?_
          refine b_icmp_eq rfl (fun c_28 => ?_) (fun c_28 => ?_)
          · refine b_iload rfl rfl ?_
            refine b_istore_n rfl (Nat.le_of_ble_eq_true rfl) ?_
            refine b_iinc rfl rfl (Nat.le_of_ble_eq_true rfl) ?_
            refine b_goto rfl ?_
            exact b_eq ih (by simp only [nI_succ, sp_bit, c_20, if_true, if_false, not_true_eq_false, not_false_eq_true]; rfl) rfl rfl
          · exact absurd rfl c_28
        · refine b_goto rfl ?_
          refine b_iinc rfl rfl (Nat.le_of_ble_eq_true rfl) ?_
          refine b_goto rfl ?_
          exact b_eq ih (by simp only [nI_succ, sp_bit, c_20, if_true, if_false, not_true_eq_false, not_false_eq_true]; rfl) rfl rfl
    | some j =>
      have hj := hlt j rfl
      have hne : ¬ sp_enc (some j) = -1 := by
        intro z
        have z2 := congrArg Int32.toInt z
        rw [show sp_enc (some j) = nI j from rfl, nI_toInt (by omega)] at z2
        rw [show (-1 : Int32).toInt = -1 from rfl] at z2
        omega
      have hij : (sp_enc (some j)).toInt = (j : Int) := nI_toInt (by omega)
      by_cases hl : least
      · rw [if_pos hl] at hb
        subst hb
        refine b_iload rfl rfl ?_
        refine b_aload_n rfl rfl ?_
        refine b_getI rfl (by first | rfl | assumption) rfl ?_
        refine b_icmp_ge rfl (fun c_11 => ?_) (fun c_11 => ?_)
        · exact absurd (by rw [← hn]; exact c_11) (nI_ge hk (by omega))
        · refine b_iload_n rfl rfl ?_
          refine b_iload rfl rfl ?_
          refine b_ishr rfl ?_
          refine b_iconst rfl ?_
          refine b_iand rfl ?_
          refine b_if_ne rfl (fun c_20 => ?_) (fun c_20 => ?_)
          · refine b_iload_n rfl rfl ?_
            refine b_iconst rfl ?_
            refine b_icmp_eq rfl (fun c_28 => ?_) (fun c_28 => ?_)
            · exact absurd c_28 hne
            · refine b_iload_n rfl rfl ?_
              refine b_if_eq rfl (fun c_32 => ?_) (fun c_32 => ?_)
              · exact absurd c_32 (by decide)
              · refine b_aload_n rfl rfl ?_
                refine b_getR rfl (by first | rfl | assumption) rfl (by assumption) ?_
                refine b_iload rfl rfl ?_
                refine b_iaload rfl (by first | rfl | assumption) (by first | assumption | exact nI_toInt (by omega) | exact hi_l0 | exact hi_l1 | exact hi_l2 | exact hi_l3 | exact hi_l4 | exact hi_l5 | exact hi_l6) (by omega) ?_
                refine b_aload_n rfl rfl ?_
                refine b_getR rfl (by first | rfl | assumption) rfl (by assumption) ?_
                refine b_iload_n rfl rfl ?_
                refine b_iaload rfl (by first | rfl | assumption) hij (by omega) ?_
                refine b_icmp_ge rfl (fun c_48 => ?_) (fun c_48 => ?_)
                · refine b_iinc rfl rfl (Nat.le_of_ble_eq_true rfl) ?_
                  refine b_goto rfl ?_
                  exact b_eq ih (by first | (simp only [nI_succ, sp_bit, c_20, if_true, if_false, not_true_eq_false, not_false_eq_true]; rfl) | (simp only [nI_succ, sp_bit, c_20, hl, if_true, if_false, not_true_eq_false, not_false_eq_true, if_neg (Int32.not_lt.mpr c_48)]; rfl) | (simp only [nI_succ, sp_bit, c_20, hl, if_true, if_false, not_true_eq_false, not_false_eq_true, if_pos (Int32.not_le.mp c_48)]; rfl)) rfl rfl
                · refine b_goto rfl ?_
                  refine b_iload rfl rfl ?_
                  refine b_istore_n rfl (Nat.le_of_ble_eq_true rfl) ?_
                  refine b_iinc rfl rfl (Nat.le_of_ble_eq_true rfl) ?_
                  refine b_goto rfl ?_
                  exact b_eq ih (by first | (simp only [nI_succ, sp_bit, c_20, if_true, if_false, not_true_eq_false, not_false_eq_true]; rfl) | (simp only [nI_succ, sp_bit, c_20, hl, if_true, if_false, not_true_eq_false, not_false_eq_true, if_neg (Int32.not_lt.mpr c_48)]; rfl) | (simp only [nI_succ, sp_bit, c_20, hl, if_true, if_false, not_true_eq_false, not_false_eq_true, if_pos (Int32.not_le.mp c_48)]; rfl)) rfl rfl
          · refine b_goto rfl ?_
            refine b_iinc rfl rfl (Nat.le_of_ble_eq_true rfl) ?_
            refine b_goto rfl ?_
            exact b_eq ih (by first | (simp only [nI_succ, sp_bit, c_20, if_true, if_false, not_true_eq_false, not_false_eq_true]; rfl) | (simp only [nI_succ, sp_bit, c_20, hl, if_true, if_false, not_true_eq_false, not_false_eq_true, if_neg (Int32.not_lt.mpr c_48)]; rfl) | (simp only [nI_succ, sp_bit, c_20, hl, if_true, if_false, not_true_eq_false, not_false_eq_true, if_pos (Int32.not_le.mp c_48)]; rfl)) rfl rfl
      · rw [if_neg hl] at hb
        subst hb
        refine b_iload rfl rfl ?_
        refine b_aload_n rfl rfl ?_
        refine b_getI rfl (by first | rfl | assumption) rfl ?_
        refine b_icmp_ge rfl (fun c_11 => ?_) (fun c_11 => ?_)
        · exact absurd (by rw [← hn]; exact c_11) (nI_ge hk (by omega))
        · refine b_iload_n rfl rfl ?_
          refine b_iload rfl rfl ?_
          refine b_ishr rfl ?_
          refine b_iconst rfl ?_
          refine b_iand rfl ?_
          refine b_if_ne rfl (fun c_20 => ?_) (fun c_20 => ?_)
          · refine b_iload_n rfl rfl ?_
            refine b_iconst rfl ?_
            refine b_icmp_eq rfl (fun c_28 => ?_) (fun c_28 => ?_)
            · exact absurd c_28 hne
            · refine b_iload_n rfl rfl ?_
              refine b_if_eq rfl (fun c_32 => ?_) (fun c_32 => ?_)
              · refine b_aload_n rfl rfl ?_
                refine b_getR rfl (by first | rfl | assumption) rfl (by assumption) ?_
                refine b_iload rfl rfl ?_
                refine b_iaload rfl (by first | rfl | assumption) (by first | assumption | exact nI_toInt (by omega) | exact hi_l0 | exact hi_l1 | exact hi_l2 | exact hi_l3 | exact hi_l4 | exact hi_l5 | exact hi_l6) (by omega) ?_
                refine b_aload_n rfl rfl ?_
                refine b_getR rfl (by first | rfl | assumption) rfl (by assumption) ?_
                refine b_iload_n rfl rfl ?_
                refine b_iaload rfl (by first | rfl | assumption) hij (by omega) ?_
                refine b_icmp_le rfl (fun c_67 => ?_) (fun c_67 => ?_)
                · refine b_iinc rfl rfl (Nat.le_of_ble_eq_true rfl) ?_
                  refine b_goto rfl ?_
                  exact b_eq ih (by first | (simp only [nI_succ, sp_bit, c_20, if_true, if_false, not_true_eq_false, not_false_eq_true]; rfl) | (simp only [nI_succ, sp_bit, c_20, hl, if_true, if_false, not_true_eq_false, not_false_eq_true, if_neg (Int32.not_lt.mpr c_67)]; rfl) | (simp only [nI_succ, sp_bit, c_20, hl, if_true, if_false, not_true_eq_false, not_false_eq_true, if_pos (Int32.not_le.mp c_67)]; rfl)) rfl rfl
                · refine b_iload rfl rfl ?_
                  refine b_istore_n rfl (Nat.le_of_ble_eq_true rfl) ?_
                  refine b_iinc rfl rfl (Nat.le_of_ble_eq_true rfl) ?_
                  refine b_goto rfl ?_
                  exact b_eq ih (by first | (simp only [nI_succ, sp_bit, c_20, if_true, if_false, not_true_eq_false, not_false_eq_true]; rfl) | (simp only [nI_succ, sp_bit, c_20, hl, if_true, if_false, not_true_eq_false, not_false_eq_true, if_neg (Int32.not_lt.mpr c_67)]; rfl) | (simp only [nI_succ, sp_bit, c_20, hl, if_true, if_false, not_true_eq_false, not_false_eq_true, if_pos (Int32.not_le.mp c_67)]; rfl)) rfl rfl
              · exact absurd rfl c_32
          · refine b_goto rfl ?_
            refine b_iinc rfl rfl (Nat.le_of_ble_eq_true rfl) ?_
            refine b_goto rfl ?_
            exact b_eq ih (by first | (simp only [nI_succ, sp_bit, c_20, if_true, if_false, not_true_eq_false, not_false_eq_true]; rfl) | (simp only [nI_succ, sp_bit, c_20, hl, if_true, if_false, not_true_eq_false, not_false_eq_true, if_neg (Int32.not_lt.mpr c_67)]; rfl) | (simp only [nI_succ, sp_bit, c_20, hl, if_true, if_false, not_true_eq_false, not_false_eq_true, if_pos (Int32.not_le.mp c_67)]; rfl)) rfl rfl
end HNnet
