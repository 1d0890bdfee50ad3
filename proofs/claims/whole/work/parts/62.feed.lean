section HNfeed
variable {I I' : Nat → Nat → Int32} {J J' : Nat → Nat → Int64} {R : Nat → Nat → Option Nat} {t : Nat} {N : sp_N} {Q Q' S : sp_Q} {U : sp_U} {V : sp_V}
/-! bytes of a long number -/
def bn (v : Int64) (s : Nat) : Nat := (v.toBitVec.toNat >>> s) % 256
theorem bn_bit {v : Int64} {s i : Nat} (hi : i < 32) : (nI (bn v s)).toBitVec.getLsbD i = (decide (i < 8) && v.toBitVec.getLsbD (s + i)) := by
  have e : (nI (bn v s)).toBitVec = BitVec.ofNat 32 (bn v s) := by simp [nI, Int32.toBitVec_ofNat']
  rw [e, BitVec.getLsbD_ofNat]
  unfold bn
  rw [show (256 : Nat) = 2 ^ 8 from rfl, Nat.testBit_mod_two_pow, Nat.testBit_shiftRight]
  rw [show decide (i < 32) = true from decide_eq_true hi, Bool.true_and]
  rfl
theorem by_m {v : Int64} {s : Nat} (hs : s ≤ 56) : ((v >>> ((nI s).toInt64 &&& 63)).toInt32 &&& 255) = nI (bn v s) := by
  refine Int32.toBitVec_inj.mp (BitVec.eq_of_getLsbD_eq (fun i hi => ?_))
  have k255 : ∀ i : Fin 32, (255 : Int32).toBitVec.getLsbD i.val = decide (i.val < 8) := by decide +kernel
  have e1 : (v >>> ((nI s).toInt64 &&& 63)).toInt32.toBitVec = (v >>> ((nI s).toInt64 &&& 63)).toBitVec.setWidth 32 := BitVec.signExtend_eq_setWidth_of_le _ (by decide)
  rw [bn_bit hi, Int32.toBitVec_and, BitVec.getLsbD_and, k255 ⟨i, hi⟩, e1, BitVec.getLsbD_setWidth, jb_sh (by omega)]
  by_cases h8 : i < 8
  · rw [if_pos (by omega)]
    simp [h8, hi]
  · simp [h8]
theorem by_x {v : Int64} {s : Nat} (hs : s ≤ 56) : ((((v.toUInt64 >>> ((nI s).toInt64.toUInt64 &&& Int64.toUInt64 63)).toInt64 &&& 255).toInt32).toUInt32 % 65536).toInt32 = nI (bn v s) := by
  have h1 : ((v.toUInt64 >>> ((nI s).toInt64.toUInt64 &&& Int64.toUInt64 63)).toInt64 &&& 255).toInt32 = nI (bn v s) := by
    refine Int32.toBitVec_inj.mp (BitVec.eq_of_getLsbD_eq (fun i hi => ?_))
    have k255 : ∀ i : Fin 32, (255 : Int64).toBitVec.getLsbD i.val = decide (i.val < 8) := by decide +kernel
    have key : ∀ s : Fin 57, ((nI s.val).toInt64.toUInt64 &&& Int64.toUInt64 63).toNat % 64 = s.val := by decide +kernel
    have e1 : ((v.toUInt64 >>> ((nI s).toInt64.toUInt64 &&& Int64.toUInt64 63)).toInt64 &&& 255).toInt32.toBitVec = ((v.toUInt64 >>> ((nI s).toInt64.toUInt64 &&& Int64.toUInt64 63)).toInt64 &&& 255).toBitVec.setWidth 32 := BitVec.signExtend_eq_setWidth_of_le _ (by decide)
    have e2 : (v.toUInt64 >>> ((nI s).toInt64.toUInt64 &&& Int64.toUInt64 63)).toInt64.toBitVec.getLsbD i = v.toBitVec.getLsbD (s + i) := by
      show (v.toUInt64 >>> ((nI s).toInt64.toUInt64 &&& Int64.toUInt64 63)).toNat.testBit i = v.toBitVec.toNat.testBit (s + i)
      rw [UInt64.toNat_shiftRight, key ⟨s, by omega⟩, Nat.testBit_shiftRight]
      rfl
    rw [bn_bit hi, e1, BitVec.getLsbD_setWidth, Int64.toBitVec_and, BitVec.getLsbD_and, k255 ⟨i, hi⟩, e2]
    by_cases h8 : i < 8
    · simp [h8, hi]
    · simp [h8]
  rw [h1]
  have k : ∀ b : Fin 256, ((nI b.val).toUInt32 % 65536).toInt32 = nI b.val := by decide +kernel
  have hb : bn v s < 256 := by unfold bn; omega
  exact k ⟨bn v s, hb⟩
/-! the tape: its signs, how many -/
abbrev sp_T : Type := (Nat → Int32) × Nat
abbrev tp_c (c : Nat) : Prop := c = 10 ∨ (32 ≤ c ∧ c ≤ 126)
def tp_add (T : sp_T) (c : Nat) : sp_T := if tp_c c ∧ T.2 < 1000 then (va_up T.1 T.2 (nI c), T.2 + 1) else T
def tp_lay (T : sp_T) (v : Int64) : Nat → sp_T := sp_up (fun j T => tp_add T (bn v (56 - 8 * j))) T
abbrev tp_ok (T : sp_T) : Prop := T.2 ≤ 1000 ∧ ∀ i, i < T.2 → ∃ c, tp_c c ∧ T.1 i = nI c
def hs_Tx (I : Nat → Nat → Int32) (T : sp_T) : Prop := I 1 1 = nI T.2 ∧ ∀ i, i < T.2 → I 2 i = T.1 i
def hs_Tm (I : Nat → Nat → Int32) (T : sp_T) : Prop := I 188 2 = nI T.2 ∧ ∀ i, i < T.2 → I 189 i = T.1 i
theorem tp_add_ok {T : sp_T} {c : Nat} (h : tp_ok T) : tp_ok (tp_add T c) := by
  unfold tp_add
  by_cases hc : tp_c c ∧ T.2 < 1000
  · rw [if_pos hc]
    refine ⟨(show T.2 + 1 ≤ 1000 by omega), fun i hi => ?_⟩
    show ∃ d, tp_c d ∧ va_up T.1 T.2 (nI c) i = nI d
    unfold va_up
    by_cases e : i = T.2
    · rw [if_pos e]; exact ⟨c, hc.1, rfl⟩
    · rw [if_neg e]; simp only at hi; exact h.2 i (by omega)
  · rw [if_neg hc]; exact h
theorem tp_lay_ok {T : sp_T} {v : Int64} (h : tp_ok T) : ∀ j, tp_ok (tp_lay T v j)
  | 0 => h
  | j + 1 => tp_add_ok (tp_lay_ok h j)
def sx (j : Nat) : Int32 := 56 - 8 * nI j
theorem sx_n {j : Nat} (h : j < 8) : sx j = nI (56 - 8 * j) ∧ ¬ sx j < 0 := by
  have key : ∀ j : Fin 8, sx j.val = nI (56 - 8 * j.val) ∧ ¬ sx j.val < 0 := by decide +kernel
  exact key ⟨j, h⟩
theorem sx_s {j : Nat} (h : j < 8) : sx (j + 1) = sx j + (-8) := by
  have key : ∀ j : Fin 8, sx (j.val + 1) = sx j.val + (-8) := by decide +kernel
  exact key ⟨j, h⟩
theorem bn_lt {v : Int64} {s : Nat} : bn v s < 256 := by unfold bn; omega
theorem tp_row {f g : Nat → Int32} {T : sp_T} {v : Int32} (h : ∀ i, i < T.2 → f i = T.1 i) : ∀ i, i < T.2 + 1 → va_up f T.2 v i = va_up T.1 T.2 v i := by
  intro i hi
  unfold va_up
  by_cases e : i = T.2
  · rw [if_pos e, if_pos e]
  · rw [if_neg e, if_neg e]; exact h i (by omega)
theorem char_nar {c : Nat} (h : c < 256) : vp_nar .char (nI c) = nI c := by
  have key : ∀ c : Fin 256, vp_nar .char (nI c.val) = nI c.val := by decide +kernel
  exact key ⟨c, h⟩
theorem q_Tape_put {T : sp_T} {v : Int64} (hR : R 1 0 = some 2) (hT : hs_Tx I T) (hok : tp_ok T) : hn_F 0 hm_Tape_put [.ref 1, .long v] (I, J, R) (fun r D' => r = none ∧ ∃ I2, D' = (I2, J, R) ∧ (∀ b, b ≠ 1 → b ≠ 2 → I2 b = I b) ∧ (∀ i, i ≠ 1 → I2 1 i = I 1 i) ∧ hs_Tx I2 (tp_lay T v 8)) := by
  have k2 : hn_kind 2 = (4, 1000) := rfl
  have t10 : (10 : Int32) = nI 10 := rfl
  refine hn_F_of _ hk_Tape_put rfl (Nat.le_of_ble_eq_true rfl) ?_
  obtain ⟨P, hPd⟩ : ∃ P : Option Value → hnD → Prop, P = (fun r D' => r = none ∧ ∃ I2, D' = (I2, J, R) ∧ (∀ b, b ≠ 1 → b ≠ 2 → I2 b = I b) ∧ (∀ i, i ≠ 1 → I2 1 i = I 1 i) ∧ hs_Tx I2 (tp_lay T v 8)) := ⟨_, rfl⟩
  rw [← hPd]
  have lp : ∀ I', (∀ b, b ≠ 1 → b ≠ 2 → I' b = I b) → (∀ i, i ≠ 1 → I' 1 i = I 1 i) → hs_Tx I' (tp_lay T v 0) → hn_B 0 hm_Tape_put P 3 [.ref 1, .long v, .null, .int (sx 0), .null, .null] [] (I', J, R) := by
    refine sp_ind 8 (fun j => ∀ I', (∀ b, b ≠ 1 → b ≠ 2 → I' b = I b) → (∀ i, i ≠ 1 → I' 1 i = I 1 i) → hs_Tx I' (tp_lay T v j) → hn_B 0 hm_Tape_put P 3 [.ref 1, .long v, .null, .int (sx j), .null, .null] [] (I', J, R)) ?_ ?_
    · intro I' hf hf1 hT'
      refine b_iload_n rfl rfl ?_
      refine b_if_lt rfl (fun c_4 => ?_) (fun c_4 => ?_)
      · exact b_return_ rfl trivial ((by rw [hPd]; exact ⟨rfl, I', rfl, hf, hf1, hT'⟩))
      · exact absurd (show sx 8 < 0 by decide) c_4
    · intro j hj ih I' hf hf1 hT'
      obtain ⟨sj, sn⟩ := sx_n hj
      have hb := bn_lt (v := v) (s := 56 - 8 * j)
      have hok' := (tp_lay_ok (v := v) hok j).1
      have hs : tp_lay T v (j + 1) = tp_add (tp_lay T v j) (bn v (56 - 8 * j)) := rfl
      rw [hs] at ih
      obtain ⟨c, hc⟩ : ∃ c, c = bn v (56 - 8 * j) := ⟨_, rfl⟩
      have hby := by_x (v := v) (s := 56 - 8 * j) (by omega)
      rw [← sj, ← hc] at hby
      rw [← hc] at ih hb
      generalize tp_lay T v j = T0 at ih hT' hok'
      obtain ⟨h1, h2⟩ := hT'
      have S44 : ∀ b : Int32, fg (tp_c c) b → hn_B 0 hm_Tape_put P 44 [.ref 1, .long v, .null, .int (sx j), .int (nI c), .null] [.int b] (I', J, R) := by
        intro b hbb
        have no : ¬ (tp_c c ∧ T0.2 < 1000) → hn_B 0 hm_Tape_put P 3 [.ref 1, .long v, .null, .int (sx j + (-8)), .null, .null] [] (I', J, R) := fun hno => by
          have ih := ih I' hf hf1 (by rw [tp_add, if_neg hno]; exact ⟨h1, h2⟩)
          rw [sx_s hj] at ih
          exact ih
        rcases hbb with ⟨hy, rfl⟩ | ⟨hy, rfl⟩
        · by_cases hl : T0.2 < 1000
          · obtain ⟨I2, hI2⟩ : ∃ z, z = hn_u I' 2 T0.2 (nI c) := ⟨_, rfl⟩
            have e21 : I2 1 = I' 1 := by rw [hI2, hn_u_ne _ _ _ (by omega)]
            have ih := ih (hn_u I2 1 1 (nI (T0.2 + 1))) (fun b hb1 hb2 => by rw [hn_u_ne _ _ _ hb1, hI2, hn_u_ne _ _ _ hb2]; exact hf b hb1 hb2) (fun i hi => by rw [hn_u_eq, va_up, if_neg hi, e21]; exact hf1 i hi) (by rw [tp_add, if_pos ⟨hy, hl⟩]; exact ⟨by rw [hn_u_eq, va_up, if_pos rfl], fun i hi => by rw [hn_u_ne _ _ _ (by omega), hI2, hn_u_eq]; exact tp_row (g := I' 2) h2 i hi⟩)
            rw [sx_s hj] at ih
            refine b_istore rfl (Nat.le_of_ble_eq_true rfl) ?_
            refine b_iload rfl rfl ?_
            refine b_if_eq rfl (fun c_48 => ?_) (fun c_48 => ?_)
            · exact absurd c_48 (by decide)
            · refine b_aload_n rfl rfl ?_
              refine b_getI rfl (by first | rfl | assumption) rfl ?_
              rw [h1]
              refine b_sipush rfl ?_
              refine b_icmp_ge rfl (fun c_58 => ?_) (fun c_58 => ?_)
              · exact absurd c_58 (nI_ge (b := 1000) hl (by omega))
              · refine b_aload_n rfl rfl ?_
                refine b_getR rfl (by first | rfl | assumption) rfl (by assumption) ?_
                refine b_aload_n rfl rfl ?_
                refine b_getI rfl (by first | rfl | assumption) rfl ?_
                rw [h1]
                refine b_iload rfl rfl ?_
                refine b_castore rfl (by first | rfl | assumption) (by first | assumption | exact nI_toInt (by omega) | exact hi_l0 | exact hi_l1 | exact hi_l2 | exact hi_l3 | exact hi_l4 | exact hi_l5 | exact hi_l6) (by omega) (char_nar hb) ?_
                rw [← hI2]
                refine b_aload_n rfl rfl ?_
                refine b_dup rfl rfl ?_
                refine b_getI rfl (by first | rfl | assumption) rfl ?_
                rw [e21, h1]
                refine b_iconst rfl ?_
                refine b_iadd rfl ?_
                rw [← nI_succ]
                refine b_putI rfl (by first | rfl | assumption) rfl rfl ⟨rfl, rfl⟩ ?_
                refine b_iinc rfl rfl (Nat.le_of_ble_eq_true rfl) ?_
                refine b_goto rfl ?_
                exact b_lp ih (le_e (le_e (le_e (le_e (le_n (le_n le_0)))))) rfl rfl
          · refine b_istore rfl (Nat.le_of_ble_eq_true rfl) ?_
            refine b_iload rfl rfl ?_
            refine b_if_eq rfl (fun c_48 => ?_) (fun c_48 => ?_)
            · exact absurd c_48 (by decide)
            · refine b_aload_n rfl rfl ?_
              refine b_getI rfl (by first | rfl | assumption) rfl ?_
              rw [h1]
              refine b_sipush rfl ?_
              refine b_icmp_ge rfl (fun c_58 => ?_) (fun c_58 => ?_)
              · refine b_iinc rfl rfl (Nat.le_of_ble_eq_true rfl) ?_
                refine b_goto rfl ?_
                exact b_lp (no (fun z => hl z.2)) (le_e (le_e (le_e (le_e (le_n (le_n le_0)))))) rfl rfl
              · exact absurd (nI_le (show 1000 ≤ T0.2 by omega) (by omega)) c_58
        · refine b_istore rfl (Nat.le_of_ble_eq_true rfl) ?_
          refine b_iload rfl rfl ?_
          refine b_if_eq rfl (fun c_48 => ?_) (fun c_48 => ?_)
          · refine b_iinc rfl rfl (Nat.le_of_ble_eq_true rfl) ?_
            refine b_goto rfl ?_
            exact b_lp (no (fun z => hy z.1)) (le_e (le_e (le_e (le_e (le_n (le_n le_0)))))) rfl rfl
          · exact absurd rfl c_48
      have i10 : nI c = 10 ↔ c = 10 := hi_nIe (k := 10) (by omega) (by omega)
      have i32 : nI c < 32 ↔ c < 32 := by rw [hi_lt (nI_toInt (n := c) (by omega)) (show (32 : Int32).toInt = 32 from rfl)]; omega
      have i126 : 126 < nI c ↔ 126 < c := by rw [hi_lt (show (126 : Int32).toInt = 126 from rfl) (nI_toInt (n := c) (by omega))]; omega
      refine b_iload_n rfl rfl ?_
      refine b_if_lt rfl (fun c_4 => ?_) (fun c_4 => ?_)
      · exact absurd c_4 sn
      · refine b_lload_n rfl rfl ?_
        refine b_iload_n rfl rfl ?_
        refine b_lushr rfl ?_
        refine b_ldc2_w rfl ?_
        refine b_land rfl ?_
        refine b_l2i rfl ?_
        refine b_i2c rfl ?_
        rw [hby]
        refine b_istore rfl (Nat.le_of_ble_eq_true rfl) ?_
        refine b_iload rfl rfl ?_
        refine b_bipush rfl ?_
        refine b_icmp_eq rfl (fun c_22 => ?_) (fun c_22 => ?_)
        · refine b_iconst rfl ?_
          refine b_goto rfl ?_
          first | exact b_lp (S44 1 (Or.inl ⟨Or.inl (i10.mp c_22), rfl⟩)) (le_e (le_e (le_e (le_e (le_e (le_n le_0)))))) rfl rfl | exact b_lp (S44 0 (Or.inr ⟨fun z => z.elim (fun y => c_22 (i10.mpr y)) (fun y => absurd (i32.mp c_29) (by omega)), rfl⟩)) (le_e (le_e (le_e (le_e (le_e (le_n le_0)))))) rfl rfl | exact b_lp (S44 0 (Or.inr ⟨fun z => z.elim (fun y => c_22 (i10.mpr y)) (fun y => absurd (i126.mp c_36) (by omega)), rfl⟩)) (le_e (le_e (le_e (le_e (le_e (le_n le_0)))))) rfl rfl | exact b_lp (S44 1 (Or.inl ⟨Or.inr ⟨Nat.le_of_not_lt (fun z => c_29 (i32.mpr z)), Nat.le_of_not_lt (fun z => c_36 (i126.mpr z))⟩, rfl⟩)) (le_e (le_e (le_e (le_e (le_e (le_n le_0)))))) rfl rfl
        · refine b_iload rfl rfl ?_
          refine b_bipush rfl ?_
          refine b_icmp_lt rfl (fun c_29 => ?_) (fun c_29 => ?_)
          · refine b_iconst rfl ?_
            first | exact b_lp (S44 1 (Or.inl ⟨Or.inl (i10.mp c_22), rfl⟩)) (le_e (le_e (le_e (le_e (le_e (le_n le_0)))))) rfl rfl | exact b_lp (S44 0 (Or.inr ⟨fun z => z.elim (fun y => c_22 (i10.mpr y)) (fun y => absurd (i32.mp c_29) (by omega)), rfl⟩)) (le_e (le_e (le_e (le_e (le_e (le_n le_0)))))) rfl rfl | exact b_lp (S44 0 (Or.inr ⟨fun z => z.elim (fun y => c_22 (i10.mpr y)) (fun y => absurd (i126.mp c_36) (by omega)), rfl⟩)) (le_e (le_e (le_e (le_e (le_e (le_n le_0)))))) rfl rfl | exact b_lp (S44 1 (Or.inl ⟨Or.inr ⟨Nat.le_of_not_lt (fun z => c_29 (i32.mpr z)), Nat.le_of_not_lt (fun z => c_36 (i126.mpr z))⟩, rfl⟩)) (le_e (le_e (le_e (le_e (le_e (le_n le_0)))))) rfl rfl
          · refine b_iload rfl rfl ?_
            refine b_bipush rfl ?_
            refine b_icmp_gt rfl (fun c_36 => ?_) (fun c_36 => ?_)
            · refine b_iconst rfl ?_
              first | exact b_lp (S44 1 (Or.inl ⟨Or.inl (i10.mp c_22), rfl⟩)) (le_e (le_e (le_e (le_e (le_e (le_n le_0)))))) rfl rfl | exact b_lp (S44 0 (Or.inr ⟨fun z => z.elim (fun y => c_22 (i10.mpr y)) (fun y => absurd (i32.mp c_29) (by omega)), rfl⟩)) (le_e (le_e (le_e (le_e (le_e (le_n le_0)))))) rfl rfl | exact b_lp (S44 0 (Or.inr ⟨fun z => z.elim (fun y => c_22 (i10.mpr y)) (fun y => absurd (i126.mp c_36) (by omega)), rfl⟩)) (le_e (le_e (le_e (le_e (le_e (le_n le_0)))))) rfl rfl | exact b_lp (S44 1 (Or.inl ⟨Or.inr ⟨Nat.le_of_not_lt (fun z => c_29 (i32.mpr z)), Nat.le_of_not_lt (fun z => c_36 (i126.mpr z))⟩, rfl⟩)) (le_e (le_e (le_e (le_e (le_e (le_n le_0)))))) rfl rfl
            · refine b_iconst rfl ?_
              refine b_goto rfl ?_
              first | exact b_lp (S44 1 (Or.inl ⟨Or.inl (i10.mp c_22), rfl⟩)) (le_e (le_e (le_e (le_e (le_e (le_n le_0)))))) rfl rfl | exact b_lp (S44 0 (Or.inr ⟨fun z => z.elim (fun y => c_22 (i10.mpr y)) (fun y => absurd (i32.mp c_29) (by omega)), rfl⟩)) (le_e (le_e (le_e (le_e (le_e (le_n le_0)))))) rfl rfl | exact b_lp (S44 0 (Or.inr ⟨fun z => z.elim (fun y => c_22 (i10.mpr y)) (fun y => absurd (i126.mp c_36) (by omega)), rfl⟩)) (le_e (le_e (le_e (le_e (le_e (le_n le_0)))))) rfl rfl | exact b_lp (S44 1 (Or.inl ⟨Or.inr ⟨Nat.le_of_not_lt (fun z => c_29 (i32.mpr z)), Nat.le_of_not_lt (fun z => c_36 (i126.mpr z))⟩, rfl⟩)) (le_e (le_e (le_e (le_e (le_e (le_n le_0)))))) rfl rfl
  refine b_bipush rfl ?_
  refine b_istore_n rfl (Nat.le_of_ble_eq_true rfl) ?_
  exact b_lp (lp I (fun _ _ _ => rfl) (fun _ _ => rfl) hT) (le_e (le_e (le_n (le_q (by rfl) (le_n (le_n le_0)))))) rfl rfl
theorem q_M_lay {T : sp_T} {v : Int64} (hR : R 188 1 = some 189) (hT : hs_Tm I T) (hok : tp_ok T) : hn_F 0 hm_M_lay [.ref 188, .long v] (I, J, R) (fun r D' => r = none ∧ ∃ I2, D' = (I2, J, R) ∧ (∀ b, b ≠ 188 → b ≠ 189 → I2 b = I b) ∧ (∀ i, i ≠ 2 → I2 188 i = I 188 i) ∧ hs_Tm I2 (tp_lay T v 8)) := by
  have k2 : hn_kind 189 = (1, 1000) := rfl
  refine hn_F_of _ hk_M_lay rfl (Nat.le_of_ble_eq_true rfl) ?_
  obtain ⟨P, hPd⟩ : ∃ P : Option Value → hnD → Prop, P = (fun r D' => r = none ∧ ∃ I2, D' = (I2, J, R) ∧ (∀ b, b ≠ 188 → b ≠ 189 → I2 b = I b) ∧ (∀ i, i ≠ 2 → I2 188 i = I 188 i) ∧ hs_Tm I2 (tp_lay T v 8)) := ⟨_, rfl⟩
  rw [← hPd]
  have lp : ∀ I', (∀ b, b ≠ 188 → b ≠ 189 → I' b = I b) → (∀ i, i ≠ 2 → I' 188 i = I 188 i) → hs_Tm I' (tp_lay T v 0) → hn_B 0 hm_M_lay P 3 [.ref 188, .long v, .null, .int (sx 0), .null] [] (I', J, R) := by
    refine sp_ind 8 (fun j => ∀ I', (∀ b, b ≠ 188 → b ≠ 189 → I' b = I b) → (∀ i, i ≠ 2 → I' 188 i = I 188 i) → hs_Tm I' (tp_lay T v j) → hn_B 0 hm_M_lay P 3 [.ref 188, .long v, .null, .int (sx j), .null] [] (I', J, R)) ?_ ?_
    · intro I' hf hf1 hT'
      refine b_iload_n rfl rfl ?_
      refine b_if_lt rfl (fun c_4 => ?_) (fun c_4 => ?_)
      · exact b_return_ rfl trivial ((by rw [hPd]; exact ⟨rfl, I', rfl, hf, hf1, hT'⟩))
      · exact absurd (show sx 8 < 0 by decide) c_4
    · intro j hj ih I' hf hf1 hT'
      obtain ⟨sj, sn⟩ := sx_n hj
      have hb := bn_lt (v := v) (s := 56 - 8 * j)
      have hok' := (tp_lay_ok (v := v) hok j).1
      have hs : tp_lay T v (j + 1) = tp_add (tp_lay T v j) (bn v (56 - 8 * j)) := rfl
      rw [hs] at ih
      obtain ⟨c, hc⟩ : ∃ c, c = bn v (56 - 8 * j) := ⟨_, rfl⟩
      have hby := by_m (v := v) (s := 56 - 8 * j) (by omega)
      rw [← sj, ← hc] at hby
      rw [← hc] at ih hb
      generalize tp_lay T v j = T0 at ih hT' hok'
      obtain ⟨h1, h2⟩ := hT'
      have no : ¬ (tp_c c ∧ T0.2 < 1000) → hn_B 0 hm_M_lay P 3 [.ref 188, .long v, .null, .int (sx j + (-8)), .null] [] (I', J, R) := fun hno => by
        have ih := ih I' hf hf1 (by rw [tp_add, if_neg hno]; exact ⟨h1, h2⟩)
        rw [sx_s hj] at ih
        exact ih
      have S38 : tp_c c → hn_B 0 hm_M_lay P 38 [.ref 188, .long v, .null, .int (sx j), .int (nI c)] [] (I', J, R) := by
        intro hy
        by_cases hl : T0.2 < 1000
        · obtain ⟨I2, hI2⟩ : ∃ z, z = hn_u I' 189 T0.2 (nI c) := ⟨_, rfl⟩
          have e21 : I2 188 = I' 188 := by rw [hI2, hn_u_ne _ _ _ (by omega)]
          have ih := ih (hn_u I2 188 2 (nI (T0.2 + 1))) (fun b hb1 hb2 => by rw [hn_u_ne _ _ _ hb1, hI2, hn_u_ne _ _ _ hb2]; exact hf b hb1 hb2) (fun i hi => by rw [hn_u_eq, va_up, if_neg hi, e21]; exact hf1 i hi) (by rw [tp_add, if_pos ⟨hy, hl⟩]; exact ⟨by rw [hn_u_eq, va_up, if_pos rfl], fun i hi => by rw [hn_u_ne _ _ _ (by omega), hI2, hn_u_eq]; exact tp_row (g := I' 189) h2 i hi⟩)
          rw [sx_s hj] at ih
          refine b_aload_n rfl rfl ?_
          refine b_getI rfl (by first | rfl | assumption) rfl ?_
          rw [h1]
          refine b_sipush rfl ?_
          refine b_icmp_ge rfl (fun c_45 => ?_) (fun c_45 => ?_)
          · exact absurd c_45 (nI_ge (b := 1000) hl (by omega))
          · refine b_aload_n rfl rfl ?_
            refine b_getR rfl (by first | rfl | assumption) rfl (by assumption) ?_
            refine b_aload_n rfl rfl ?_
            refine b_getI rfl (by first | rfl | assumption) rfl ?_
            rw [h1]
            refine b_iload rfl rfl ?_
            refine b_iastore rfl (by first | rfl | assumption) (by first | assumption | exact nI_toInt (by omega) | exact hi_l0 | exact hi_l1 | exact hi_l2 | exact hi_l3 | exact hi_l4 | exact hi_l5 | exact hi_l6) (by omega) ?_
            rw [← hI2]
            refine b_aload_n rfl rfl ?_
            refine b_dup rfl rfl ?_
            refine b_getI rfl (by first | rfl | assumption) rfl ?_
            rw [e21, h1]
            refine b_iconst rfl ?_
            refine b_iadd rfl ?_
            rw [← nI_succ]
            refine b_putI rfl (by first | rfl | assumption) rfl rfl ⟨rfl, rfl⟩ ?_
            refine b_iinc rfl rfl (Nat.le_of_ble_eq_true rfl) ?_
            refine b_goto rfl ?_
            exact b_lp ih (le_e (le_e (le_e (le_e (le_n le_0))))) rfl rfl
        · refine b_aload_n rfl rfl ?_
          refine b_getI rfl (by first | rfl | assumption) rfl ?_
          rw [h1]
          refine b_sipush rfl ?_
          refine b_icmp_ge rfl (fun c_45 => ?_) (fun c_45 => ?_)
          · refine b_iinc rfl rfl (Nat.le_of_ble_eq_true rfl) ?_
            refine b_goto rfl ?_
            exact b_lp (no (fun z => hl z.2)) (le_e (le_e (le_e (le_e (le_n le_0))))) rfl rfl
          · exact absurd (nI_le (show 1000 ≤ T0.2 by omega) (by omega)) c_45
      have S69 : ¬ tp_c c → hn_B 0 hm_M_lay P 69 [.ref 188, .long v, .null, .int (sx j), .int (nI c)] [] (I', J, R) := by
        intro hy
        refine b_iinc rfl rfl (Nat.le_of_ble_eq_true rfl) ?_
        refine b_goto rfl ?_
        exact b_lp (no (fun z => hy z.1)) (le_e (le_e (le_e (le_e (le_n le_0))))) rfl rfl
      have i10 : nI c = 10 ↔ c = 10 := hi_nIe (k := 10) (by omega) (by omega)
      have i32 : nI c < 32 ↔ c < 32 := by rw [hi_lt (nI_toInt (n := c) (by omega)) (show (32 : Int32).toInt = 32 from rfl)]; omega
      have i126 : 126 < nI c ↔ 126 < c := by rw [hi_lt (show (126 : Int32).toInt = 126 from rfl) (nI_toInt (n := c) (by omega))]; omega
      refine b_iload_n rfl rfl ?_
      refine b_if_lt rfl (fun c_4 => ?_) (fun c_4 => ?_)
      · exact absurd c_4 sn
      · refine b_lload_n rfl rfl ?_
        refine b_iload_n rfl rfl ?_
        refine b_lshr rfl ?_
        refine b_l2i rfl ?_
        refine b_sipush rfl ?_
        refine b_iand rfl ?_
        rw [hby]
        refine b_istore rfl (Nat.le_of_ble_eq_true rfl) ?_
        refine b_iload rfl rfl ?_
        refine b_bipush rfl ?_
        refine b_icmp_eq rfl (fun c_21 => ?_) (fun c_21 => ?_)
        · first | exact b_lp (S38 (Or.inl (i10.mp c_21))) (le_e (le_e (le_e (le_e (le_e le_0))))) rfl rfl | exact b_lp (S38 (Or.inr ⟨Nat.le_of_not_lt (fun z => c_28 (i32.mpr z)), Nat.le_of_not_lt (fun z => c_35 (i126.mpr z))⟩)) (le_e (le_e (le_e (le_e (le_e le_0))))) rfl rfl
        · refine b_iload rfl rfl ?_
          refine b_bipush rfl ?_
          refine b_icmp_lt rfl (fun c_28 => ?_) (fun c_28 => ?_)
          · first | exact b_lp (S69 (fun z => z.elim (fun y => c_21 (i10.mpr y)) (fun y => absurd (i32.mp c_28) (by omega)))) (le_e (le_e (le_e (le_e (le_e le_0))))) rfl rfl | exact b_lp (S69 (fun z => z.elim (fun y => c_21 (i10.mpr y)) (fun y => absurd (i126.mp c_35) (by omega)))) (le_e (le_e (le_e (le_e (le_e le_0))))) rfl rfl
          · refine b_iload rfl rfl ?_
            refine b_bipush rfl ?_
            refine b_icmp_gt rfl (fun c_35 => ?_) (fun c_35 => ?_)
            · first | exact b_lp (S69 (fun z => z.elim (fun y => c_21 (i10.mpr y)) (fun y => absurd (i32.mp c_28) (by omega)))) (le_e (le_e (le_e (le_e (le_e le_0))))) rfl rfl | exact b_lp (S69 (fun z => z.elim (fun y => c_21 (i10.mpr y)) (fun y => absurd (i126.mp c_35) (by omega)))) (le_e (le_e (le_e (le_e (le_e le_0))))) rfl rfl
            · first | exact b_lp (S38 (Or.inl (i10.mp c_21))) (le_e (le_e (le_e (le_e (le_e le_0))))) rfl rfl | exact b_lp (S38 (Or.inr ⟨Nat.le_of_not_lt (fun z => c_28 (i32.mpr z)), Nat.le_of_not_lt (fun z => c_35 (i126.mpr z))⟩)) (le_e (le_e (le_e (le_e (le_e le_0))))) rfl rfl
  refine b_bipush rfl ?_
  refine b_istore_n rfl (Nat.le_of_ble_eq_true rfl) ?_
  exact b_lp (lp I (fun _ _ _ => rfl) (fun _ _ => rfl) hT) (le_e (le_e (le_n (le_q (by rfl) (le_n le_0))))) rfl rfl
def v_feed (T : sp_T) (a b c : Int64) : sp_T := tp_lay (tp_lay (tp_lay T a 8) b 8) c 8
theorem v_feed_ok {T : sp_T} {a b c : Int64} (h : tp_ok T) : tp_ok (v_feed T a b c) := tp_lay_ok (tp_lay_ok (tp_lay_ok h 8) 8) 8
theorem q_X_feed {T : sp_T} {a b c : Int64} (hR : hs_refs R) (hT : hs_Tx I T) (hok : tp_ok T) : hn_F 1 hm_X_feed [.ref 0, .long a, .long b, .long c] (I, J, R) (fun r D' => (∃ I2, D' = (I2, J, R) ∧ (∀ b, b ≠ 1 → b ≠ 2 → I2 b = I b) ∧ (∀ i, i ≠ 1 → I2 1 i = I 1 i) ∧ hs_Tx I2 (v_feed T a b c)) ∧ r = some (.int (nI (v_feed T a b c).2))) := by
  have r0 : R 0 0 = some 1 := hR (0, 0, 1) (by decide +kernel)
  have r1 : R 1 0 = some 2 := hR (1, 0, 2) (by decide +kernel)
  refine hn_F_of _ hk_X_feed rfl (Nat.le_of_ble_eq_true rfl) ?_
  refine b_aload_n rfl rfl ?_
  refine b_getR rfl (by first | rfl | assumption) rfl (by assumption) ?_
  refine b_lload_n rfl rfl ?_
  refine b_callV rfl rfl hk_Tape_put rfl rfl rfl (by first | rfl | assumption) rfl (Nat.le_of_ble_eq_true rfl) (q_Tape_put r1 hT hok) (Nat.le_of_ble_eq_true rfl) (fun r_5 D_5 q_5 => ?_)
  obtain ⟨rfl, I1, rfl, f1, g1, T1⟩ := q_5
  refine b_aload_n rfl rfl ?_
  refine b_getR rfl (by first | rfl | assumption) rfl (by assumption) ?_
  refine b_lload_n rfl rfl ?_
  refine b_callV rfl rfl hk_Tape_put rfl rfl rfl (by first | rfl | assumption) rfl (Nat.le_of_ble_eq_true rfl) (q_Tape_put r1 T1 (tp_lay_ok hok 8)) (Nat.le_of_ble_eq_true rfl) (fun r_13 D_13 q_13 => ?_)
  obtain ⟨rfl, I2, rfl, f2, g2, T2⟩ := q_13
  refine b_aload_n rfl rfl ?_
  refine b_getR rfl (by first | rfl | assumption) rfl (by assumption) ?_
  refine b_lload rfl rfl ?_
  refine b_callV rfl rfl hk_Tape_put rfl rfl rfl (by first | rfl | assumption) rfl (Nat.le_of_ble_eq_true rfl) (q_Tape_put r1 T2 (tp_lay_ok (tp_lay_ok hok 8) 8)) (Nat.le_of_ble_eq_true rfl) (fun r_22 D_22 q_22 => ?_)
  obtain ⟨rfl, I3, rfl, f3, g3, T3⟩ := q_22
  refine b_aload_n rfl rfl ?_
  refine b_getR rfl (by first | rfl | assumption) rfl (by assumption) ?_
  refine b_getI rfl (by first | rfl | assumption) rfl ?_
  rw [T3.1]
  exact b_ireturn rfl trivial (⟨⟨I3, rfl, fun b h1 h2 => by rw [f3 b h1 h2, f2 b h1 h2, f1 b h1 h2], fun i hi => by rw [g3 i hi, g2 i hi, g1 i hi], T3⟩, rfl⟩)
theorem q_M_feed {T : sp_T} {a b c : Int64} (hR : hs_refs R) (hT : hs_Tm I T) (hok : tp_ok T) : hn_F 1 hm_M_feed [.ref 188, .long a, .long b, .long c] (I, J, R) (fun r D' => (∃ I2, D' = (I2, J, R) ∧ (∀ b, b ≠ 188 → b ≠ 189 → I2 b = I b) ∧ (∀ i, i ≠ 0 → i ≠ 2 → I2 188 i = I 188 i) ∧ hs_Tm I2 (v_feed T a b c)) ∧ r = some (.int (nI (v_feed T a b c).2))) := by
  have r1 : R 188 1 = some 189 := hR (188, 1, 189) (by decide +kernel)
  refine hn_F_of _ hk_M_feed rfl (Nat.le_of_ble_eq_true rfl) ?_
  refine b_aload_n rfl rfl ?_
  refine b_iconst rfl ?_
  refine b_putI rfl (by first | rfl | assumption) rfl rfl ⟨rfl, rfl⟩ ?_
  obtain ⟨I0, h0⟩ : ∃ z, z = hn_u I 188 0 0 := ⟨_, rfl⟩
  rw [← h0]
  have f0 : ∀ b, b ≠ 188 → I0 b = I b := fun b hb => by rw [h0, hn_u_ne _ _ _ hb]
  have g0 : ∀ i, i ≠ 0 → I0 188 i = I 188 i := fun i hi => by rw [h0, hn_u_eq, va_up, if_neg hi]
  have T0 : hs_Tm I0 T := ⟨by rw [g0 2 (by omega)]; exact hT.1, fun i hi => by rw [f0 189 (by omega)]; exact hT.2 i hi⟩
  refine b_aload_n rfl rfl ?_
  refine b_lload_n rfl rfl ?_
  refine b_callV rfl rfl hk_M_lay rfl rfl rfl (by first | rfl | assumption) rfl (Nat.le_of_ble_eq_true rfl) (q_M_lay r1 T0 hok) (Nat.le_of_ble_eq_true rfl) (fun r_7 D_7 q_7 => ?_)
  obtain ⟨rfl, I1, rfl, f1, g1, T1⟩ := q_7
  refine b_aload_n rfl rfl ?_
  refine b_lload_n rfl rfl ?_
  refine b_callV rfl rfl hk_M_lay rfl rfl rfl (by first | rfl | assumption) rfl (Nat.le_of_ble_eq_true rfl) (q_M_lay r1 T1 (tp_lay_ok hok 8)) (Nat.le_of_ble_eq_true rfl) (fun r_12 D_12 q_12 => ?_)
  obtain ⟨rfl, I2, rfl, f2, g2, T2⟩ := q_12
  refine b_aload_n rfl rfl ?_
  refine b_lload rfl rfl ?_
  refine b_callV rfl rfl hk_M_lay rfl rfl rfl (by first | rfl | assumption) rfl (Nat.le_of_ble_eq_true rfl) (q_M_lay r1 T2 (tp_lay_ok (tp_lay_ok hok 8) 8)) (Nat.le_of_ble_eq_true rfl) (fun r_18 D_18 q_18 => ?_)
  obtain ⟨rfl, I3, rfl, f3, g3, T3⟩ := q_18
  refine b_aload_n rfl rfl ?_
  refine b_getI rfl (by first | rfl | assumption) rfl ?_
  rw [T3.1]
  exact b_ireturn rfl trivial (⟨⟨I3, rfl, fun b h1 h2 => by rw [f3 b h1 h2, f2 b h1 h2, f1 b h1 h2, f0 b h1], fun i hi h2 => by rw [g3 i h2, g2 i h2, g1 i h2, g0 i hi], T3⟩, rfl⟩)
end HNfeed
