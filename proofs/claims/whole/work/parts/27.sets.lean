section HNsets
variable {I : Nat → Nat → Int32} {J : Nat → Nat → Int64} {R : Nat → Nat → Option Nat}
theorem hi_nlt {a b : Nat} (h : a < b) (hb : b < 2147483648) : nI a < nI b := (hi_lt (nI_toInt (by omega)) (nI_toInt (by omega))).mpr (by omega)
theorem hi_nnlt {a b : Nat} (h : b ≤ a) (ha : a < 2147483648) : ¬ nI a < nI b := fun z => by
  have := (hi_lt (x := nI a) (y := nI b) (nI_toInt (by omega)) (nI_toInt (by omega))).mp z
  omega
theorem sp_lt_all {n : Nat} {a : Int32} (b : Int32) (ha : sp_lt n a) (hn : n ≤ 31) : sp_lt n (a &&& b) := by
  obtain ⟨i, hi, rfl⟩ := ha
  refine ⟨(nI i &&& b).toBitVec.toNat, ?_, ?_⟩
  · rw [Int32.toBitVec_and, BitVec.toNat_and]
    refine Nat.lt_of_le_of_lt Nat.and_le_left ?_
    have h2 : 2 ^ n ≤ 2 ^ 31 := Nat.pow_le_pow_right (by omega) hn
    simp only [nI, Int32.toBitVec_ofNat', BitVec.toNat_ofNat]
    rw [Nat.mod_eq_of_lt (by omega)]
    exact hi
  · generalize nI i &&& b = z
    rw [← Int32.toBitVec_inj]
    simp [nI, Int32.toBitVec_ofNat']
theorem sp_andn {n : Nat} {a u : Int32} (ha : sp_lt n a) (hn : n ≤ 31) : a &&& (u ^^^ -1) = 0 ↔ ∀ k, k < n → sp_bit a k → sp_bit u k := by
  rw [sp_zero (sp_lt_all _ ha hn) hn]
  constructor
  · intro h k hk hb
    have := h k hk
    rw [sp_bit_and (by omega), sp_bit_not (by omega)] at this
    exact Decidable.byContradiction (fun z => this ⟨hb, z⟩)
  · intro h k hk hb
    rw [sp_bit_and (by omega), sp_bit_not (by omega)] at hb
    exact hb.2 (h k hk hb.1)
theorem sp_opp_set (ag : Nat → Int32) (m : Int32) (n : Nat) : sp_opp ag m n = sp_set (fun k => ¬ ag k &&& m = 0) n := by
  refine sp_up_congr (fun k s hk => ?_)
  by_cases h : ag k &&& m = 0
  · rw [if_pos h, if_neg (fun z => z h)]
  · rw [if_neg h, if_pos h]
theorem sp_opp_lt (ag : Nat → Int32) (m : Int32) {n : Nat} (hn : n ≤ 31) : sp_lt n (sp_opp ag m n) := by
  rw [sp_opp_set]
  exact sp_set_lt _ n n (Nat.le_refl _) hn
theorem sp_opp_bit {ag : Nat → Int32} {m : Int32} {n o : Nat} (h : ∀ k, k < n → sp_lt n (ag k)) (hn : n ≤ 31) (ho : o < 31) : sp_bit (sp_opp ag m n) o ↔ o < n ∧ ∃ j, j < n ∧ sp_bit (ag o) j ∧ sp_bit m j := by
  rw [sp_opp_set, sp_set_bit _ ho n hn]
  constructor
  · rintro ⟨h1, h2⟩
    refine ⟨h1, ?_⟩
    rw [sp_zero (sp_lt_all m (h o h1) hn) hn] at h2
    refine Decidable.byContradiction (fun z => h2 (fun k hk hb => z ⟨k, hk, ?_⟩))
    rw [sp_bit_and (by omega)] at hb
    exact hb
  · rintro ⟨h1, j, hj, h2, h3⟩
    refine ⟨h1, fun z => ?_⟩
    rw [sp_zero (sp_lt_all m (h o h1) hn) hn] at z
    exact z j hj ((sp_bit_and (by omega)).mpr ⟨h2, h3⟩)
/-- those against k -/
abbrev sp_opk (ag : Nat → Int32) (n k : Nat) : Int32 := sp_opp ag ((1 : Int32) <<< (nI k &&& 31)) n
theorem sp_opk_bit {ag : Nat → Int32} {n o k : Nat} (h : ∀ k, k < n → sp_lt n (ag k)) (hn : n ≤ 31) (ho : o < 31) (hk : k < n) : sp_bit (sp_opk ag n k) o ↔ o < n ∧ sp_bit (ag o) k := by
  rw [sp_opp_bit h hn ho]
  constructor
  · rintro ⟨h1, j, hj, h2, h3⟩
    rw [sp_bit_1 (by omega) (by omega)] at h3
    rw [h3] at h2
    exact ⟨h1, h2⟩
  · rintro ⟨h1, h2⟩
    exact ⟨h1, k, hk, h2, (sp_bit_1 (by omega) (by omega)).mpr rfl⟩
theorem sp_opp_split {ag : Nat → Int32} {m u : Int32} {n : Nat} (h : ∀ k, k < n → sp_lt n (ag k)) (hn : n ≤ 31) : sp_opp ag m n &&& (u ^^^ -1) = 0 ↔ ∀ k, k < n → sp_bit m k → sp_opk ag n k &&& (u ^^^ -1) = 0 := by
  rw [sp_andn (sp_opp_lt ag m hn) hn]
  constructor
  · intro g k hk hb
    rw [sp_andn (sp_opp_lt ag _ hn) hn]
    intro o ho hob
    rw [sp_opk_bit h hn (by omega) hk] at hob
    exact g o ho ((sp_opp_bit h hn (by omega)).mpr ⟨hob.1, k, hk, hob.2, hb⟩)
  · intro g o ho hb
    rw [sp_opp_bit h hn (by omega)] at hb
    obtain ⟨_, j, hj, h2, h3⟩ := hb
    have := g j hj h3
    rw [sp_andn (sp_opp_lt ag _ hn) hn] at this
    exact this o ho ((sp_opk_bit h hn (by omega) hj).mpr ⟨ho, h2⟩)
theorem sp_defends {ag : Nat → Int32} {m : Int32} {n : Nat} (h : ∀ k, k < n → sp_lt n (ag k)) (hn : n ≤ 31) : sp_union (fun o => sp_opk ag n o) m n = sp_opp ag m n := by
  refine sp_ext (sp_union_lt (fun k => sp_opp_lt ag _ hn) n) (sp_opp_lt ag m hn) hn (fun q hq => ?_)
  rw [sp_union_bit _ _ (by omega), sp_opp_bit h hn (by omega)]
  constructor
  · rintro ⟨k, hk, h1, h2⟩
    rw [sp_opk_bit h hn (by omega) hk] at h2
    exact ⟨hq, k, hk, h2.2, h1⟩
  · rintro ⟨_, k, hk, h1, h2⟩
    exact ⟨k, hk, h2, (sp_opk_bit h hn (by omega) hk).mpr ⟨hq, h1⟩⟩
theorem sp_or_up {c : Nat → Prop} [DecidablePred c] (a : Int32) : ∀ n, sp_up (fun k s => if c k then s ||| ((1 : Int32) <<< (nI k &&& 31)) else s) a n = a ||| sp_set c n
  | 0 => (Int32.or_zero).symm
  | n + 1 => by
    have ih := sp_or_up (c := c) a n
    show (if c n then sp_up _ a n ||| _ else sp_up _ a n) = a ||| (if c n then sp_set c n ||| _ else sp_set c n)
    rw [ih]
    by_cases h : c n
    · rw [if_pos h, if_pos h, Int32.or_assoc]
    · rw [if_neg h, if_neg h]
theorem sp_trails {s : Nat → Int32} {n : Nat} (h : ∀ k, sp_lt n (s k)) (hz : ∀ k, n ≤ k → s k = 0) (hn : n ≤ 8) : (((1 : Int32) <<< (nI n &&& 31)) - 1) &&& (sp_union s (((1 : Int32) <<< (nI n &&& 31)) - 1) 8 ^^^ -1) = sp_set (fun k => sp_set (fun o => sp_bit (s o) k) n = 0) n := by
  have hall : sp_lt n (((1 : Int32) <<< (nI n &&& 31)) - 1) := ⟨2 ^ n - 1, by have := Nat.two_pow_pos n; omega, nI_all hn⟩
  refine sp_ext (sp_lt_all _ hall (by omega)) (sp_set_lt _ n n (Nat.le_refl _) (by omega)) (by omega) (fun k hk => ?_)
  rw [sp_bit_and (by omega), sp_bit_not (by omega), sp_bit_all hn (by omega), sp_set_bit _ (by omega) n (by omega), sp_union_8 hz hn, sp_union_bit _ _ (by omega), sp_zero (sp_set_lt _ n n (Nat.le_refl _) (by omega)) (by omega)]
  constructor
  · rintro ⟨h1, h2⟩
    refine ⟨h1, fun o ho hb => ?_⟩
    rw [sp_set_bit _ (by omega) n (by omega)] at hb
    exact h2 ⟨o, ho, (sp_bit_all hn (by omega)).mpr ho, hb.2⟩
  · rintro ⟨h1, h2⟩
    refine ⟨h1, ?_⟩
    rintro ⟨o, ho, _, hb⟩
    exact h2 o ho ((sp_set_bit _ (by omega) n (by omega)).mpr ⟨ho, hb⟩)
section
variable {t : Nat} {N : sp_N} {Q : sp_Q}
def v_stands (ag : Nat → Int32) (n : Nat) : Nat → Int32 := sp_up (fun i a => if sp_stand ag n (nI i) then a + 1 else a) 0
theorem pw8 {n : Nat} (h : n ≤ 8) : 0 < 2 ^ n ∧ 2 ^ n ≤ 256 := ⟨Nat.two_pow_pos n, (Nat.pow_le_pow_right (by omega) h : 2 ^ n ≤ 2 ^ 8)⟩
theorem q_X_stands (hA : hs_A I R t N Q) : hn_F 3 hm_X_stands [.ref 0] (I, J, R) (fun r D' => hs_sx t I J R D' ∧ r = some (.int (v_stands (nA N) N.1 (2 ^ N.1)))) := by
  obtain ⟨hR, r2, ht, hN, hX, hw, hz, hAw⟩ := hA
  have hN0 := hN
  have hX0 := hX
  have hw0 := hw
  obtain ⟨n0, n8, n4, nk, nh, na, hc, ncd⟩ := hN
  obtain ⟨x1, x2, x3, x4, x5, x6, x7⟩ := hX
  obtain ⟨r6, r7, r8, r11, r12, r13, r14, r15, r16, r17, r18⟩ := hs_x0 hR
  have hSt := hs_St_of hR (show 44 ∈ hs_sc by decide)
  have hNt := hs_Net_of hR ht
  obtain ⟨_, sk0, sk1, sk2, sk3, sk4, g0, g1, g2, g3⟩ := id hSt
  obtain ⟨tt5, tn0, tn1, tn2, tn3, tn4, tn5, tn6, tn7, tn8, tn9, tn10, ts1, ts2, ts3, ts4, ts5, ts7, ts8, tl0, tl2, tl6, tl7⟩ := id hNt
  obtain ⟨p0, p8⟩ := pw8 n8
  refine hn_F_of _ hk_X_stands rfl (Nat.le_of_ble_eq_true rfl) ?_
  refine b_aload_n rfl rfl ?_
  refine b_getR rfl (by first | rfl | assumption) rfl (by assumption) ?_
  refine b_callV rfl rfl hk_Net_allKnots rfl rfl rfl (by first | rfl | assumption) rfl (Nat.le_of_ble_eq_true rfl) (q_Net_allKnots hNt n0) (Nat.le_of_ble_eq_true rfl) (fun r_4 D_4 q_4 => ?_)
  obtain ⟨rfl, rfl⟩ := q_4
  rw [nI_all n8]
  refine b_istore_n rfl (Nat.le_of_ble_eq_true rfl) ?_
  refine b_iconst rfl ?_
  refine b_istore_n rfl (Nat.le_of_ble_eq_true rfl) ?_
  refine b_iconst rfl ?_
  refine b_istore_n rfl (Nat.le_of_ble_eq_true rfl) ?_
  refine b_eq (sp_ind (2 ^ N.1) (fun k => hn_B 3 hm_X_stands (fun r D' => hs_sx t I J R D' ∧ r = some (.int (v_stands (nA N) N.1 (2 ^ N.1)))) 12 [.ref 0, .int (nI (2 ^ N.1 - 1)), .int (v_stands (nA N) N.1 k), .int (nI k)] [] (I, J, R)) ?_ ?_) (by rw [nI_0]; rfl) rfl rfl
  · refine b_iload_n rfl rfl ?_
    refine b_iload_n rfl rfl ?_
    refine b_icmp_gt rfl (fun c_14 => ?_) (fun c_14 => ?_)
    · refine b_iload_n rfl rfl ?_
      exact b_ireturn rfl trivial (⟨hs_sx_r hz, rfl⟩)
    · exact absurd (hi_nlt (by omega) (by omega)) c_14
  · intro k hk ih
    refine b_iload_n rfl rfl ?_
    refine b_iload_n rfl rfl ?_
    refine b_icmp_gt rfl (fun c_14 => ?_) (fun c_14 => ?_)
    · exact absurd c_14 (hi_nnlt (by omega) (by omega))
    · refine b_aload_n rfl rfl ?_
      refine b_getR rfl (by first | rfl | assumption) rfl (by assumption) ?_
      refine b_iload_n rfl rfl ?_
      refine b_callS rfl rfl hk_Reasons_isStanding rfl rfl rfl (Nat.le_of_ble_eq_true rfl) (q_Reasons_isStanding hNt n0 n8) (Nat.le_of_ble_eq_true rfl) (fun r_22 D_22 q_22 => ?_)
      obtain ⟨rfl, hq⟩ := q_22
      rw [na] at hq
      subst hq
      refine b_if_eq rfl (fun c_25 => ?_) (fun c_25 => ?_)
      · refine b_iinc rfl rfl (Nat.le_of_ble_eq_true rfl) ?_
        refine b_goto rfl ?_
        exact b_eq ih (by have h1 := c_25; rw [if01_z] at h1; first | (simp only [nI_succ, v_stands, sp_up, if_neg h1]; rfl) | (simp only [nI_succ, v_stands, sp_up, if_pos (Decidable.not_not.mp h1)]; rfl)) rfl rfl
      · refine b_iinc rfl rfl (Nat.le_of_ble_eq_true rfl) ?_
        refine b_iinc rfl rfl (Nat.le_of_ble_eq_true rfl) ?_
        refine b_goto rfl ?_
        exact b_eq ih (by have h1 := c_25; rw [if01_z] at h1; first | (simp only [nI_succ, v_stands, sp_up, if_neg h1]; rfl) | (simp only [nI_succ, v_stands, sp_up, if_pos (Decidable.not_not.mp h1)]; rfl)) rfl rfl
def v_largest (ag : Nat → Int32) (n : Nat) : Nat → Int32 := sp_up (fun i b => if sp_pop b < sp_pop (nI i) ∧ sp_stand ag n (nI i) then nI i else b) 0
theorem v_largest_in (ag : Nat → Int32) (n : Nat) : ∀ k, k ≤ 256 → ∃ i : Fin 256, v_largest ag n k = nI i
  | 0, _ => ⟨0, rfl⟩
  | k + 1, h => by
    obtain ⟨i, hi⟩ := v_largest_in ag n k (by omega)
    show ∃ i : Fin 256, (if sp_pop (v_largest ag n k) < sp_pop (nI k) ∧ sp_stand ag n (nI k) then nI k else v_largest ag n k) = nI i
    by_cases hc : sp_pop (v_largest ag n k) < sp_pop (nI k) ∧ sp_stand ag n (nI k)
    · rw [if_pos hc]; exact ⟨⟨k, by omega⟩, rfl⟩
    · rw [if_neg hc]; exact ⟨i, hi⟩
theorem q_X_largest (hA : hs_A I R t N Q) : hn_F 3 hm_X_largest [.ref 0] (I, J, R) (fun r D' => hs_sx t I J R D' ∧ r = some (.int (v_largest (nA N) N.1 (2 ^ N.1)))) := by
  obtain ⟨hR, r2, ht, hN, hX, hw, hz, hAw⟩ := hA
  have hN0 := hN
  have hX0 := hX
  have hw0 := hw
  obtain ⟨n0, n8, n4, nk, nh, na, hc, ncd⟩ := hN
  obtain ⟨x1, x2, x3, x4, x5, x6, x7⟩ := hX
  obtain ⟨r6, r7, r8, r11, r12, r13, r14, r15, r16, r17, r18⟩ := hs_x0 hR
  have hSt := hs_St_of hR (show 44 ∈ hs_sc by decide)
  have hNt := hs_Net_of hR ht
  obtain ⟨_, sk0, sk1, sk2, sk3, sk4, g0, g1, g2, g3⟩ := id hSt
  obtain ⟨tt5, tn0, tn1, tn2, tn3, tn4, tn5, tn6, tn7, tn8, tn9, tn10, ts1, ts2, ts3, ts4, ts5, ts7, ts8, tl0, tl2, tl6, tl7⟩ := id hNt
  obtain ⟨p0, p8⟩ := pw8 n8
  refine hn_F_of _ hk_X_largest rfl (Nat.le_of_ble_eq_true rfl) ?_
  refine b_aload_n rfl rfl ?_
  refine b_getR rfl (by first | rfl | assumption) rfl (by assumption) ?_
  refine b_callV rfl rfl hk_Net_allKnots rfl rfl rfl (by first | rfl | assumption) rfl (Nat.le_of_ble_eq_true rfl) (q_Net_allKnots hNt n0) (Nat.le_of_ble_eq_true rfl) (fun r_4 D_4 q_4 => ?_)
  obtain ⟨rfl, rfl⟩ := q_4
  rw [nI_all n8]
  refine b_istore_n rfl (Nat.le_of_ble_eq_true rfl) ?_
  refine b_iconst rfl ?_
  refine b_istore_n rfl (Nat.le_of_ble_eq_true rfl) ?_
  refine b_iconst rfl ?_
  refine b_istore_n rfl (Nat.le_of_ble_eq_true rfl) ?_
  refine b_eq (sp_ind (2 ^ N.1) (fun k => hn_B 3 hm_X_largest (fun r D' => hs_sx t I J R D' ∧ r = some (.int (v_largest (nA N) N.1 (2 ^ N.1)))) 12 [.ref 0, .int (nI (2 ^ N.1 - 1)), .int (v_largest (nA N) N.1 k), .int (nI k)] [] (I, J, R)) ?_ ?_) (by rw [nI_0]; rfl) rfl rfl
  · refine b_iload_n rfl rfl ?_
    refine b_iload_n rfl rfl ?_
    refine b_icmp_gt rfl (fun c_14 => ?_) (fun c_14 => ?_)
    · refine b_iload_n rfl rfl ?_
      exact b_ireturn rfl trivial (⟨hs_sx_r hz, rfl⟩)
    · exact absurd (hi_nlt (by omega) (by omega)) c_14
  · intro k hk ih
    have b1 : bc_f (nI k) = sp_pop (nI k) := bc_small ⟨k, by omega⟩
    have b2 := bc_b8 (v_largest_in (nA N) N.1 k (by omega))
    have e : v_largest (nA N) N.1 (k + 1) = if sp_pop (v_largest (nA N) N.1 k) < sp_pop (nI k) ∧ sp_stand (nA N) N.1 (nI k) then nI k else v_largest (nA N) N.1 k := rfl
    rw [e] at ih
    refine b_iload_n rfl rfl ?_
    refine b_iload_n rfl rfl ?_
    refine b_icmp_gt rfl (fun c_14 => ?_) (fun c_14 => ?_)
    · exact absurd c_14 (hi_nnlt (by omega) (by omega))
    · refine b_iload_n rfl rfl ?_
      refine b_callS rfl rfl hk_JI_bitCount rfl rfl rfl (Nat.le_of_ble_eq_true rfl) (q_bitCount) (Nat.le_of_ble_eq_true rfl) (fun r_18 D_18 q_18 => ?_)
      obtain ⟨rfl, rfl⟩ := q_18
      refine b_iload_n rfl rfl ?_
      refine b_callS rfl rfl hk_JI_bitCount rfl rfl rfl (Nat.le_of_ble_eq_true rfl) (q_bitCount) (Nat.le_of_ble_eq_true rfl) (fun r_22 D_22 q_22 => ?_)
      obtain ⟨rfl, rfl⟩ := q_22
      rw [b1, b2]
      refine b_icmp_le rfl (fun c_25 => ?_) (fun c_25 => ?_)
      · refine b_iinc rfl rfl (Nat.le_of_ble_eq_true rfl) ?_
        refine b_goto rfl ?_
        first | (rw [if_neg (fun z => Int32.not_lt.mpr c_25 z.1)] at ih; exact b_eq ih (by rw [nI_succ]; rfl) rfl rfl) | (rw [if_neg (fun z => if01_z.mp c_36 z.2)] at ih; exact b_eq ih (by rw [nI_succ]; rfl) rfl rfl) | (rw [if_pos ⟨Int32.not_le.mp c_25, if01_n c_36⟩] at ih; exact b_eq ih (by rw [nI_succ]; rfl) rfl rfl)
      · refine b_aload_n rfl rfl ?_
        refine b_getR rfl (by first | rfl | assumption) rfl (by assumption) ?_
        refine b_iload_n rfl rfl ?_
        refine b_callS rfl rfl hk_Reasons_isStanding rfl rfl rfl (Nat.le_of_ble_eq_true rfl) (q_Reasons_isStanding hNt n0 n8) (Nat.le_of_ble_eq_true rfl) (fun r_33 D_33 q_33 => ?_)
        obtain ⟨rfl, hq⟩ := q_33
        rw [na] at hq
        subst hq
        refine b_if_eq rfl (fun c_36 => ?_) (fun c_36 => ?_)
        · refine b_iinc rfl rfl (Nat.le_of_ble_eq_true rfl) ?_
          refine b_goto rfl ?_
          first | (rw [if_neg (fun z => Int32.not_lt.mpr c_25 z.1)] at ih; exact b_eq ih (by rw [nI_succ]; rfl) rfl rfl) | (rw [if_neg (fun z => if01_z.mp c_36 z.2)] at ih; exact b_eq ih (by rw [nI_succ]; rfl) rfl rfl) | (rw [if_pos ⟨Int32.not_le.mp c_25, if01_n c_36⟩] at ih; exact b_eq ih (by rw [nI_succ]; rfl) rfl rfl)
        · refine b_iload_n rfl rfl ?_
          refine b_istore_n rfl (Nat.le_of_ble_eq_true rfl) ?_
          refine b_iinc rfl rfl (Nat.le_of_ble_eq_true rfl) ?_
          refine b_goto rfl ?_
          first | (rw [if_neg (fun z => Int32.not_lt.mpr c_25 z.1)] at ih; exact b_eq ih (by rw [nI_succ]; rfl) rfl rfl) | (rw [if_neg (fun z => if01_z.mp c_36 z.2)] at ih; exact b_eq ih (by rw [nI_succ]; rfl) rfl rfl) | (rw [if_pos ⟨Int32.not_le.mp c_25, if01_n c_36⟩] at ih; exact b_eq ih (by rw [nI_succ]; rfl) rfl rfl)
def v_whole (ag : Nat → Int32) (n : Nat) : Nat → Int32 := sp_up (fun i a => if (nI (2 ^ n - 1) &&& (nI i ^^^ -1)) &&& (sp_union ag (nI i) 8 ^^^ -1) = 0 ∧ sp_stand ag n (nI i) then a + 1 else a) 0
theorem q_X_whole (hA : hs_A I R t N Q) : hn_F 3 hm_X_whole [.ref 0] (I, J, R) (fun r D' => hs_sx t I J R D' ∧ r = some (.int (v_whole (nA N) N.1 (2 ^ N.1)))) := by
  obtain ⟨hR, r2, ht, hN, hX, hw, hz, hAw⟩ := hA
  have hN0 := hN
  have hX0 := hX
  have hw0 := hw
  obtain ⟨n0, n8, n4, nk, nh, na, hc, ncd⟩ := hN
  obtain ⟨x1, x2, x3, x4, x5, x6, x7⟩ := hX
  obtain ⟨r6, r7, r8, r11, r12, r13, r14, r15, r16, r17, r18⟩ := hs_x0 hR
  have hSt := hs_St_of hR (show 44 ∈ hs_sc by decide)
  have hNt := hs_Net_of hR ht
  obtain ⟨_, sk0, sk1, sk2, sk3, sk4, g0, g1, g2, g3⟩ := id hSt
  obtain ⟨tt5, tn0, tn1, tn2, tn3, tn4, tn5, tn6, tn7, tn8, tn9, tn10, ts1, ts2, ts3, ts4, ts5, ts7, ts8, tl0, tl2, tl6, tl7⟩ := id hNt
  obtain ⟨p0, p8⟩ := pw8 n8
  refine hn_F_of _ hk_X_whole rfl (Nat.le_of_ble_eq_true rfl) ?_
  refine b_aload_n rfl rfl ?_
  refine b_getR rfl (by first | rfl | assumption) rfl (by assumption) ?_
  refine b_callV rfl rfl hk_Net_allKnots rfl rfl rfl (by first | rfl | assumption) rfl (Nat.le_of_ble_eq_true rfl) (q_Net_allKnots hNt n0) (Nat.le_of_ble_eq_true rfl) (fun r_4 D_4 q_4 => ?_)
  obtain ⟨rfl, rfl⟩ := q_4
  rw [nI_all n8]
  refine b_istore_n rfl (Nat.le_of_ble_eq_true rfl) ?_
  refine b_iconst rfl ?_
  refine b_istore_n rfl (Nat.le_of_ble_eq_true rfl) ?_
  refine b_iconst rfl ?_
  refine b_istore_n rfl (Nat.le_of_ble_eq_true rfl) ?_
  refine b_eq (sp_ind (2 ^ N.1) (fun k => ∀ l, hn_B 3 hm_X_whole (fun r D' => hs_sx t I J R D' ∧ r = some (.int (v_whole (nA N) N.1 (2 ^ N.1)))) 12 [.ref 0, .int (nI (2 ^ N.1 - 1)), .int (v_whole (nA N) N.1 k), .int (nI k), l] [] (I, J, R)) ?_ ?_ .null) (by rw [nI_0]; rfl) rfl rfl
  · intro l
    refine b_iload_n rfl rfl ?_
    refine b_iload_n rfl rfl ?_
    refine b_icmp_gt rfl (fun c_14 => ?_) (fun c_14 => ?_)
    · refine b_iload_n rfl rfl ?_
      exact b_ireturn rfl trivial (⟨hs_sx_r hz, rfl⟩)
    · exact absurd (hi_nlt (by omega) (by omega)) c_14
  · intro k hk ih l
    have e : v_whole (nA N) N.1 (k + 1) = if (nI (2 ^ N.1 - 1) &&& (nI k ^^^ -1)) &&& (sp_union (nA N) (nI k) 8 ^^^ -1) = 0 ∧ sp_stand (nA N) N.1 (nI k) then v_whole (nA N) N.1 k + 1 else v_whole (nA N) N.1 k := rfl
    rw [e] at ih
    refine b_iload_n rfl rfl ?_
    refine b_iload_n rfl rfl ?_
    refine b_icmp_gt rfl (fun c_14 => ?_) (fun c_14 => ?_)
    · exact absurd c_14 (hi_nnlt (by omega) (by omega))
    · refine b_iload_n rfl rfl ?_
      refine b_iload_n rfl rfl ?_
      refine b_iconst rfl ?_
      refine b_ixor rfl ?_
      refine b_iand rfl ?_
      refine b_aload_n rfl rfl ?_
      refine b_getR rfl (by first | rfl | assumption) rfl (by assumption) ?_
      refine b_iload_n rfl rfl ?_
      refine b_callS rfl rfl hk_Reasons_answeredBy rfl rfl rfl (Nat.le_of_ble_eq_true rfl) (q_Reasons_answeredBy hNt) (Nat.le_of_ble_eq_true rfl) (fun r_27 D_27 q_27 => ?_)
      obtain ⟨rfl, hq⟩ := q_27
      rw [na] at hq
      subst hq
      refine b_iconst rfl ?_
      refine b_ixor rfl ?_
      refine b_iand rfl ?_
      refine b_if_ne rfl (fun c_33 => ?_) (fun c_33 => ?_)
      · refine b_iconst rfl ?_
        refine b_istore rfl (Nat.le_of_ble_eq_true rfl) ?_
        refine b_iload rfl rfl ?_
        refine b_if_eq rfl (fun c_45 => ?_) (fun c_45 => ?_)
        · refine b_iinc rfl rfl (Nat.le_of_ble_eq_true rfl) ?_
          refine b_goto rfl ?_
          first | (rw [if_neg (fun z => c_33 z.1)] at ih; exact b_eq (ih _) (by rw [nI_succ]; rfl) rfl rfl) | (rw [if_neg (fun z => if01_z.mp c_56 z.2)] at ih; exact b_eq (ih _) (by rw [nI_succ]; rfl) rfl rfl) | exact absurd rfl c_45 | exact absurd c_45 (by decide) | (rw [if_pos ⟨c_33, if01_n c_56⟩] at ih; exact b_eq (ih _) (by rw [nI_succ]; rfl) rfl rfl)
        · refine b_aload_n rfl rfl ?_
          refine b_getR rfl (by first | rfl | assumption) rfl (by assumption) ?_
          refine b_iload_n rfl rfl ?_
          refine b_callS rfl rfl hk_Reasons_isStanding rfl rfl rfl (Nat.le_of_ble_eq_true rfl) (q_Reasons_isStanding hNt n0 n8) (Nat.le_of_ble_eq_true rfl) (fun r_53 D_53 q_53 => ?_)
          obtain ⟨rfl, hq⟩ := q_53
          rw [na] at hq
          subst hq
          refine b_if_eq rfl (fun c_56 => ?_) (fun c_56 => ?_)
          · refine b_iinc rfl rfl (Nat.le_of_ble_eq_true rfl) ?_
            refine b_goto rfl ?_
            first | (rw [if_neg (fun z => c_33 z.1)] at ih; exact b_eq (ih _) (by rw [nI_succ]; rfl) rfl rfl) | (rw [if_neg (fun z => if01_z.mp c_56 z.2)] at ih; exact b_eq (ih _) (by rw [nI_succ]; rfl) rfl rfl) | exact absurd rfl c_45 | exact absurd c_45 (by decide) | (rw [if_pos ⟨c_33, if01_n c_56⟩] at ih; exact b_eq (ih _) (by rw [nI_succ]; rfl) rfl rfl)
          · refine b_iinc rfl rfl (Nat.le_of_ble_eq_true rfl) ?_
            refine b_iinc rfl rfl (Nat.le_of_ble_eq_true rfl) ?_
            refine b_goto rfl ?_
            first | (rw [if_neg (fun z => c_33 z.1)] at ih; exact b_eq (ih _) (by rw [nI_succ]; rfl) rfl rfl) | (rw [if_neg (fun z => if01_z.mp c_56 z.2)] at ih; exact b_eq (ih _) (by rw [nI_succ]; rfl) rfl rfl) | exact absurd rfl c_45 | exact absurd c_45 (by decide) | (rw [if_pos ⟨c_33, if01_n c_56⟩] at ih; exact b_eq (ih _) (by rw [nI_succ]; rfl) rfl rfl)
      · refine b_iconst rfl ?_
        refine b_goto rfl ?_
        refine b_istore rfl (Nat.le_of_ble_eq_true rfl) ?_
        refine b_iload rfl rfl ?_
        refine b_if_eq rfl (fun c_45 => ?_) (fun c_45 => ?_)
        · refine b_iinc rfl rfl (Nat.le_of_ble_eq_true rfl) ?_
          refine b_goto rfl ?_
          first | (rw [if_neg (fun z => c_33 z.1)] at ih; exact b_eq (ih _) (by rw [nI_succ]; rfl) rfl rfl) | (rw [if_neg (fun z => if01_z.mp c_56 z.2)] at ih; exact b_eq (ih _) (by rw [nI_succ]; rfl) rfl rfl) | exact absurd rfl c_45 | exact absurd c_45 (by decide) | (rw [if_pos ⟨c_33, if01_n c_56⟩] at ih; exact b_eq (ih _) (by rw [nI_succ]; rfl) rfl rfl)
        · refine b_aload_n rfl rfl ?_
          refine b_getR rfl (by first | rfl | assumption) rfl (by assumption) ?_
          refine b_iload_n rfl rfl ?_
          refine b_callS rfl rfl hk_Reasons_isStanding rfl rfl rfl (Nat.le_of_ble_eq_true rfl) (q_Reasons_isStanding hNt n0 n8) (Nat.le_of_ble_eq_true rfl) (fun r_53 D_53 q_53 => ?_)
          obtain ⟨rfl, hq⟩ := q_53
          rw [na] at hq
          subst hq
          refine b_if_eq rfl (fun c_56 => ?_) (fun c_56 => ?_)
          · refine b_iinc rfl rfl (Nat.le_of_ble_eq_true rfl) ?_
            refine b_goto rfl ?_
            first | (rw [if_neg (fun z => c_33 z.1)] at ih; exact b_eq (ih _) (by rw [nI_succ]; rfl) rfl rfl) | (rw [if_neg (fun z => if01_z.mp c_56 z.2)] at ih; exact b_eq (ih _) (by rw [nI_succ]; rfl) rfl rfl) | exact absurd rfl c_45 | exact absurd c_45 (by decide) | (rw [if_pos ⟨c_33, if01_n c_56⟩] at ih; exact b_eq (ih _) (by rw [nI_succ]; rfl) rfl rfl)
          · refine b_iinc rfl rfl (Nat.le_of_ble_eq_true rfl) ?_
            refine b_iinc rfl rfl (Nat.le_of_ble_eq_true rfl) ?_
            refine b_goto rfl ?_
            first | (rw [if_neg (fun z => c_33 z.1)] at ih; exact b_eq (ih _) (by rw [nI_succ]; rfl) rfl rfl) | (rw [if_neg (fun z => if01_z.mp c_56 z.2)] at ih; exact b_eq (ih _) (by rw [nI_succ]; rfl) rfl rfl) | exact absurd rfl c_45 | exact absurd c_45 (by decide) | (rw [if_pos ⟨c_33, if01_n c_56⟩] at ih; exact b_eq (ih _) (by rw [nI_succ]; rfl) rfl rfl)
end
end HNsets
