section HNwalks
variable {I I' : Nat → Nat → Int32} {J J' : Nat → Nat → Int64} {R : Nat → Nat → Option Nat} {t : Nat} {N : sp_N} {Q Q' : sp_Q}
theorem hi_nIe {i k : Nat} (hi : i < 2147483648) (hk : k < 2147483648) : nI i = nI k ↔ i = k := by
  constructor
  · intro e
    have := congrArg Int32.toInt e
    rw [nI_toInt (by omega), nI_toInt (by omega)] at this
    omega
  · rintro rfl; rfl
theorem sp_wto_congr {s w w' : Nat → Int32} {j n : Nat} (h : ∀ i, i < n → w i = w' i) : sp_wto s w j n = sp_wto s w' j n := by
  refine sp_up_congr (fun i a hi => ?_)
  rw [h i hi]
theorem sp_bit_z {k : Nat} : ¬ sp_bit 0 k := by
  have hb0 : ∀ x : Int32, (0 : Int32) >>> x &&& 1 = 0 := by
    intro x
    rw [← Int32.toBitVec_inj, Int32.toBitVec_and, Int32.toBitVec_shiftRight, BitVec.sshiftRight_eq']
    simp
  exact fun z => z (hb0 _)
theorem sp_wto_8 {s w : Nat → Int32} {j n : Nat} (h : ∀ k, n ≤ k → s k = 0) (hn : n ≤ 8) : sp_wto s w j 8 = sp_wto s w j n := by
  have key : ∀ m, sp_wto s w j (n + m) = sp_wto s w j n := by
    intro m
    induction m with
    | zero => rfl
    | succ m ih =>
      show (if sp_bit (s (n + m)) j then sp_wto s w j (n + m) + w (n + m) else sp_wto s w j (n + m)) = _
      rw [ih, h (n + m) (by omega), if_neg sp_bit_z]
  have := key (8 - n)
  rw [show n + (8 - n) = 8 by omega] at this
  exact this
theorem hi_ge8 {i : Nat} (h : i < 8) : ¬ (8 : Int32) ≤ nI i := fun z => nI_ge h (by omega) (show nI 8 ≤ nI i from z)
theorem hi_88 : (8 : Int32) ≤ nI 8 := by decide
theorem q_Ways_countWalks {q k o m : Nat} (hq : hn_kind q = (1, 8)) (hq1 : q < 179) (hw : hs_Ways R) (hk : k < 8) (ho : o < 8) (hm : m ≤ 9) : hn_F 1 hm_Ways_countWalks [.ref 178, .ref q, .int (nI k), .int (nI o), .int (nI m)] (I, J, R) (fun r D' => hs_fr I J R D' (fun b => b = 181 ∨ b = 182) ∧ r = some (.int (sp_wk (I q) k m o))) := by
  have hw0 := hw
  obtain ⟨w0, w1, w2, w3⟩ := hw
  refine hn_F_of _ hk_Ways_countWalks rfl (Nat.le_of_ble_eq_true rfl) ?_
  obtain ⟨P, hPd⟩ : ∃ P : Option Value → hnD → Prop, P = (fun r D' => hs_fr I J R D' (fun b => b = 181 ∨ b = 182) ∧ r = some (.int (sp_wk (I q) k m o))) := ⟨_, rfl⟩
  rw [← hPd]
  have L47 : ∀ i (I' : Nat → Nat → Int32), i < m → (∀ b, ¬ (b = 181 ∨ b = 182) → I' b = I b) → (∀ j, j < 8 → I' 181 j = sp_wk (I q) k i j) → (∀ I2 : Nat → Nat → Int32, ∀ l : Value, (∀ b, ¬ (b = 181 ∨ b = 182) → I2 b = I b) → (∀ j, j < 8 → I2 181 j = sp_wk (I q) k (i + 1) j) → hn_B 1 hm_Ways_countWalks P 37 [.ref 178, .ref q, .int (nI k), .int (nI o), .int (nI m), .int (nI (i + 1)), l] [] (I2, J, R)) → hn_B 1 hm_Ways_countWalks P 47 [.ref 178, .ref q, .int (nI k), .int (nI o), .int (nI m), .int (nI i), .int (nI 0)] [] (I', J, R) := by
    intro i I' hi hf h1 go
    have eq0 : I' q = I q := hf q (by omega)
    refine sp_ind 8 (fun j => ∀ I2 : Nat → Nat → Int32, (∀ b, b ≠ 182 → I2 b = I' b) → (∀ j', j' < j → I2 182 j' = sp_wk (I q) k (i + 1) j') → hn_B 1 hm_Ways_countWalks P 47 [.ref 178, .ref q, .int (nI k), .int (nI o), .int (nI m), .int (nI i), .int (nI j)] [] (I2, J, R)) ?_ ?_ I' (fun _ _ => rfl) (fun _ h => absurd h (Nat.not_lt_zero _))
    · intro I2 g1 g2
      refine b_iload rfl rfl ?_
      refine b_bipush rfl ?_
      refine b_icmp_ge rfl (fun c_51 => ?_) (fun c_51 => ?_)
      · refine b_aload_n rfl rfl ?_
        refine b_getR rfl (by first | rfl | assumption) rfl (by assumption) ?_
        refine b_iconst rfl ?_
        refine b_aload_n rfl rfl ?_
        refine b_getR rfl (by first | rfl | assumption) rfl (by assumption) ?_
        refine b_iconst rfl ?_
        refine b_bipush rfl ?_
        refine b_copyI rfl rfl (by first | rfl | assumption) (by first | rfl | assumption) (show (8 : Int32).toInt = ((8 : Nat) : Int) from rfl) (by omega) (by omega) (by decide) (Nat.le_of_ble_eq_true rfl) ?_
        refine b_iinc rfl rfl (Nat.le_of_ble_eq_true rfl) ?_
        refine b_goto rfl ?_
        refine b_eq (go _ (.int (nI 8)) (fun b hb => by rw [hn_ur_ne _ _ (by omega), g1 b (by omega)]; exact hf b hb) (fun j hj => by rw [hn_ur_eq]; unfold va_cpy; rw [if_pos (by omega), show 0 + (j - 0) = j by omega]; exact g2 j hj)) (by rw [@nI_succ i]; rfl) rfl rfl
      · exact absurd hi_88 c_51
    · intro j hj ih I2 g1 g2
      have e181 : I2 181 = I' 181 := g1 _ (by omega)
      have eq2 : I2 q = I q := by rw [g1 q (by omega)]; exact eq0
      have ev : sp_wto (I2 q) (I2 181) j 8 = sp_wk (I q) k (i + 1) j := by rw [eq2, e181]; exact sp_wto_congr h1
      refine b_iload rfl rfl ?_
      refine b_bipush rfl ?_
      refine b_icmp_ge rfl (fun c_51 => ?_) (fun c_51 => ?_)
      · exact absurd c_51 (hi_ge8 hj)
      · refine b_aload_n rfl rfl ?_
        refine b_getR rfl (by first | rfl | assumption) rfl (by assumption) ?_
        refine b_iload rfl rfl ?_
        refine b_aload_n rfl rfl ?_
        refine b_aload_n rfl rfl ?_
        refine b_iload rfl rfl ?_
        refine b_callV rfl rfl hk_Ways_walksTo rfl rfl rfl (by first | rfl | assumption) rfl (Nat.le_of_ble_eq_true rfl) (q_Ways_walksTo hq hw0) (Nat.le_of_ble_eq_true rfl) (fun r_64 D_64 q_64 => ?_)
        obtain ⟨rfl, rfl⟩ := q_64
        rw [ev]
        refine b_iastore rfl (by first | rfl | assumption) (by first | assumption | exact nI_toInt (by omega) | exact hi_l0 | exact hi_l1 | exact hi_l2 | exact hi_l3 | exact hi_l4 | exact hi_l5 | exact hi_l6) (by omega) ?_
        refine b_iinc rfl rfl (Nat.le_of_ble_eq_true rfl) ?_
        refine b_goto rfl ?_
        exact b_eq (ih _ (fun b hb => by rw [hn_u_ne _ _ _ hb]; exact g1 b hb) (fun j' hj' => by rw [hn_u_eq]; unfold va_up; by_cases e : j' = j; rw [if_pos e, e]; rw [if_neg e]; exact g2 j' (by omega))) (by rw [nI_succ]; rfl) rfl rfl
  have L37 : ∀ (I' : Nat → Nat → Int32) (l : Value), (∀ b, ¬ (b = 181 ∨ b = 182) → I' b = I b) → (∀ j, j < 8 → I' 181 j = sp_wk (I q) k 0 j) → hn_B 1 hm_Ways_countWalks P 37 [.ref 178, .ref q, .int (nI k), .int (nI o), .int (nI m), .int (nI 0), l] [] (I', J, R) := by
    refine sp_ind m (fun i => ∀ (I' : Nat → Nat → Int32) (l : Value), (∀ b, ¬ (b = 181 ∨ b = 182) → I' b = I b) → (∀ j, j < 8 → I' 181 j = sp_wk (I q) k i j) → hn_B 1 hm_Ways_countWalks P 37 [.ref 178, .ref q, .int (nI k), .int (nI o), .int (nI m), .int (nI i), l] [] (I', J, R)) ?_ ?_
    · intro I' l hf h1
      refine b_iload rfl rfl ?_
      refine b_iload rfl rfl ?_
      refine b_icmp_ge rfl (fun c_41 => ?_) (fun c_41 => ?_)
      · refine b_aload_n rfl rfl ?_
        refine b_getR rfl (by first | rfl | assumption) rfl (by assumption) ?_
        refine b_iload_n rfl rfl ?_
        refine b_iaload rfl (by first | rfl | assumption) (by first | assumption | exact nI_toInt (by omega) | exact hi_l0 | exact hi_l1 | exact hi_l2 | exact hi_l3 | exact hi_l4 | exact hi_l5 | exact hi_l6) (by omega) ?_
        rw [h1 o ho]
        exact b_ireturn rfl trivial ((by rw [hPd]; exact ⟨⟨rfl, rfl, hf⟩, rfl⟩))
      · exact absurd (nI_le (Nat.le_refl _) (by omega)) c_41
    · intro i hi ih I' l hf h1
      refine b_iload rfl rfl ?_
      refine b_iload rfl rfl ?_
      refine b_icmp_ge rfl (fun c_41 => ?_) (fun c_41 => ?_)
      · exact absurd c_41 (nI_ge hi (by omega))
      · refine b_iconst rfl ?_
        refine b_istore rfl (Nat.le_of_ble_eq_true rfl) ?_
        exact b_eq (L47 i I' hi hf h1 (fun I2 l g1 g2 => ih I2 l g1 g2)) (by rw [nI_0]; rfl) rfl rfl
  refine b_iconst rfl ?_
  refine b_istore rfl (Nat.le_of_ble_eq_true rfl) ?_
  refine b_eq (sp_ind 8 (fun j => ∀ I' : Nat → Nat → Int32, (∀ b, b ≠ 181 → I' b = I b) → (∀ j', j' < j → I' 181 j' = sp_wk (I q) k 0 j') → hn_B 1 hm_Ways_countWalks P 3 [.ref 178, .ref q, .int (nI k), .int (nI o), .int (nI m), .int (nI j), .null] [] (I', J, R)) ?_ ?_ I (fun _ _ => rfl) (fun _ h => absurd h (Nat.not_lt_zero _))) (by rw [nI_0]; rfl) rfl rfl
  · intro I' g1 g2
    refine b_iload rfl rfl ?_
    refine b_bipush rfl ?_
    refine b_icmp_ge rfl (fun c_7 => ?_) (fun c_7 => ?_)
    · refine b_iconst rfl ?_
      refine b_istore rfl (Nat.le_of_ble_eq_true rfl) ?_
      exact b_eq (L37 I' _ (fun b hb => g1 b (by omega)) g2) (by rw [nI_0]; rfl) rfl rfl
    · exact absurd hi_88 c_7
  · intro j hj ih I' g1 g2
    have hI : ∀ v, v = sp_wk (I q) k 0 j → hn_B 1 hm_Ways_countWalks P 3 [.ref 178, .ref q, .int (nI k), .int (nI o), .int (nI m), .int (nI (j + 1)), .null] [] (hn_u I' 181 j v, J, R) := by
      intro v hv
      refine ih _ (fun b hb => by rw [hn_u_ne _ _ _ hb]; exact g1 b hb) (fun j' hj' => ?_)
      rw [hn_u_eq]; unfold va_up
      by_cases e : j' = j
      · rw [if_pos e, e]; exact hv
      · rw [if_neg e]; exact g2 j' (by omega)
    refine b_iload rfl rfl ?_
    refine b_bipush rfl ?_
    refine b_icmp_ge rfl (fun c_7 => ?_) (fun c_7 => ?_)
    · exact absurd c_7 (hi_ge8 hj)
    · refine b_aload_n rfl rfl ?_
      refine b_getR rfl (by first | rfl | assumption) rfl (by assumption) ?_
      refine b_iload rfl rfl ?_
      refine b_iload rfl rfl ?_
      refine b_iload_n rfl rfl ?_
      refine b_icmp_ne rfl (fun c_19 => ?_) (fun c_19 => ?_)
      · refine b_iconst rfl ?_
        refine b_iastore rfl (by first | rfl | assumption) (by first | assumption | exact nI_toInt (by omega) | exact hi_l0 | exact hi_l1 | exact hi_l2 | exact hi_l3 | exact hi_l4 | exact hi_l5 | exact hi_l6) (by omega) ?_
        refine b_iinc rfl rfl (Nat.le_of_ble_eq_true rfl) ?_
        refine b_goto rfl ?_
        first | exact b_eq (hI _ (show _ = if j = k then (1 : Int32) else 0 by rw [if_neg (fun e => c_19 ((hi_nIe (by omega) (by omega)).mpr e))])) (by rw [nI_succ]; rfl) rfl rfl | exact b_eq (hI _ (show _ = if j = k then (1 : Int32) else 0 by rw [if_pos ((hi_nIe (by omega) (by omega)).mp c_19)])) (by rw [nI_succ]; rfl) rfl rfl
      · refine b_iconst rfl ?_
        refine b_goto rfl ?_
        refine b_iastore rfl (by first | rfl | assumption) (by first | assumption | exact nI_toInt (by omega) | exact hi_l0 | exact hi_l1 | exact hi_l2 | exact hi_l3 | exact hi_l4 | exact hi_l5 | exact hi_l6) (by omega) ?_
        refine b_iinc rfl rfl (Nat.le_of_ble_eq_true rfl) ?_
        refine b_goto rfl ?_
        first | exact b_eq (hI _ (show _ = if j = k then (1 : Int32) else 0 by rw [if_neg (fun e => c_19 ((hi_nIe (by omega) (by omega)).mpr e))])) (by rw [nI_succ]; rfl) rfl rfl | exact b_eq (hI _ (show _ = if j = k then (1 : Int32) else 0 by rw [if_pos ((hi_nIe (by omega) (by omega)).mp c_19)])) (by rw [nI_succ]; rfl) rfl rfl
theorem hs_Ways_of (hR : hs_refs R) : hs_Ways R := ⟨hR (178, 0, 179) (by decide +kernel), hR (178, 1, 180) (by decide +kernel), hR (178, 2, 181) (by decide +kernel), hR (178, 3, 182) (by decide +kernel)⟩
abbrev sp_w9 (z : Int32) : Prop := 0 ≤ z.toInt ∧ z.toInt ≤ 9
def v_walks (N : sp_N) (Q : sp_Q) (x y z : Int32) : Int32 := sp_at x N.1 (fun k => sp_at y N.1 (fun o => if sp_w9 z then sp_wk (qS Q) k z.toNatClampNeg o else -1) (-1)) (-1)
theorem q_X_walks {x y z : Int32} (hA : hs_A I R t N Q) : hn_F 2 hm_X_walks [.ref 0, .int x, .int y, .int z] (I, J, R) (fun r D' => hs_sx t I J R D' ∧ r = some (.int (v_walks N Q x y z))) := by
  have hA0 := hA
  obtain ⟨hR, r2, ht, hN, hX, hw, hz, hAw⟩ := hA
  have hN0 := hN
  have hX0 := hX
  have hw0 := hw
  obtain ⟨n0, n8, n4, nk, nh, na, hc, ncd⟩ := hN
  obtain ⟨x1, x2, x3, x4, x5, x6, x7⟩ := hX
  obtain ⟨r6, r7, r8, r11, r12, r13, r14, r15, r16, r17, r18⟩ := hs_x0 hR
  have hSt := hs_St_of hR (show 44 ∈ hs_sc by decide)
  have hNt := hs_Net_of hR ht
  obtain ⟨_, sk0, sk1, sk2, sk3, sk4, g0, g1, g2, g3⟩ := id hSt
  obtain ⟨tt5, tn0, tn1, tn2, tn3, tn4, tn5, tn6, tn7, tn8, tn9, tn10, ts1, ts2, ts3, ts4, ts5, ts7, ts8, tl0, tl2, tl6, tl7⟩ := id hNt
  have e1 := hi_lt (x := z) (y := 0) rfl hi_t0
  have e2 := hi_le (x := z) (y := 9) rfl (show (9 : Int32).toInt = 9 from rfl)
  refine hn_F_of _ hk_X_walks rfl (Nat.le_of_ble_eq_true rfl) ?_
  by_cases hx : sp_in x N.1
  · obtain ⟨k, hk, rfl⟩ := sp_in_nat hx
    rw [v_walks, sp_at_in hk n8]
    by_cases hy : sp_in y N.1
    · obtain ⟨o, ho, rfl⟩ := sp_in_nat hy
      rw [sp_at_in ho n8]
      by_cases hzz : sp_w9 z
      · rw [if_pos hzz]
        obtain ⟨m, hm, rfl⟩ : ∃ m : Nat, m ≤ 9 ∧ z = nI m := ⟨z.toInt.toNat, by have := hzz.1; have := hzz.2; omega, hi_nI (by have := hzz.1; omega)⟩
        rw [nI_clamp (by omega)]
        refine b_aload_n rfl rfl ?_
        refine b_iload_n rfl rfl ?_
        refine b_callV rfl rfl hk_X_isKnot rfl rfl rfl (by first | rfl | assumption) rfl (Nat.le_of_ble_eq_true rfl) (q_X_isKnot hA0) (Nat.le_of_ble_eq_true rfl) (fun r_2 D_2 q_2 => ?_)
        obtain ⟨rfl, hq⟩ := q_2
        rw [if_pos hx] at hq
        subst hq
        refine b_if_eq rfl (fun c_5 => ?_) (fun c_5 => ?_)
        · exact absurd c_5 (by decide)
        · refine b_aload_n rfl rfl ?_
          refine b_iload_n rfl rfl ?_
          refine b_callV rfl rfl hk_X_isKnot rfl rfl rfl (by first | rfl | assumption) rfl (Nat.le_of_ble_eq_true rfl) (q_X_isKnot hA0) (Nat.le_of_ble_eq_true rfl) (fun r_10 D_10 q_10 => ?_)
          obtain ⟨rfl, hq⟩ := q_10
          rw [if_pos hy] at hq
          subst hq
          refine b_if_eq rfl (fun c_13 => ?_) (fun c_13 => ?_)
          · exact absurd c_13 (by decide)
          · refine b_iload_n rfl rfl ?_
            refine b_if_lt rfl (fun c_17 => ?_) (fun c_17 => ?_)
            · exact absurd (e1.mp c_17) (by have := hzz.1; omega)
            · refine b_iload_n rfl rfl ?_
              refine b_bipush rfl ?_
              refine b_icmp_le rfl (fun c_23 => ?_) (fun c_23 => ?_)
              · refine b_aload_n rfl rfl ?_
                refine b_getR rfl (by first | rfl | assumption) rfl (by assumption) ?_
                refine b_aload_n rfl rfl ?_
                refine b_getR rfl (by first | rfl | assumption) rfl (by assumption) ?_
                refine b_getR rfl (by first | rfl | assumption) rfl (by assumption) ?_
                refine b_iload_n rfl rfl ?_
                refine b_iload_n rfl rfl ?_
                refine b_iload_n rfl rfl ?_
                refine b_callV rfl rfl hk_Ways_countWalks rfl rfl rfl (by first | rfl | assumption) rfl (Nat.le_of_ble_eq_true rfl) (q_Ways_countWalks sk1 (by omega) (hs_Ways_of hR) (show k < 8 by omega) (show o < 8 by omega) hm) (Nat.le_of_ble_eq_true rfl) (fun r_42 D_42 q_42 => ?_)
                obtain ⟨hf, hq⟩ := q_42
                rw [x1] at hq
                subst hq
                obtain ⟨I2, rfl, hI2⟩ := hf.out
                exact b_ireturn rfl trivial (⟨⟨rfl, fun b hb => hI2 b (fun e => hb (by unfold hs_xs; omega)), fun _ _ _ _ => rfl, by show hs_z I2 49; unfold hs_z; rw [hI2 (49 + 1) (by omega), hI2 (49 + 2) (by omega), hI2 (49 + 3) (by omega), hI2 (49 + 4) (by omega)]; exact hz⟩, rfl⟩)
              · exact absurd (e2.mpr hzz.2) c_23
      · rw [if_neg hzz]
        refine b_aload_n rfl rfl ?_
        refine b_iload_n rfl rfl ?_
        refine b_callV rfl rfl hk_X_isKnot rfl rfl rfl (by first | rfl | assumption) rfl (Nat.le_of_ble_eq_true rfl) (q_X_isKnot hA0) (Nat.le_of_ble_eq_true rfl) (fun r_2 D_2 q_2 => ?_)
        obtain ⟨rfl, hq⟩ := q_2
        rw [if_pos hx] at hq
        subst hq
        refine b_if_eq rfl (fun c_5 => ?_) (fun c_5 => ?_)
        · exact absurd c_5 (by decide)
        · refine b_aload_n rfl rfl ?_
          refine b_iload_n rfl rfl ?_
          refine b_callV rfl rfl hk_X_isKnot rfl rfl rfl (by first | rfl | assumption) rfl (Nat.le_of_ble_eq_true rfl) (q_X_isKnot hA0) (Nat.le_of_ble_eq_true rfl) (fun r_10 D_10 q_10 => ?_)
          obtain ⟨rfl, hq⟩ := q_10
          rw [if_pos hy] at hq
          subst hq
          refine b_if_eq rfl (fun c_13 => ?_) (fun c_13 => ?_)
          · exact absurd c_13 (by decide)
          · refine b_iload_n rfl rfl ?_
            refine b_if_lt rfl (fun c_17 => ?_) (fun c_17 => ?_)
            · refine b_iconst rfl ?_
              exact b_ireturn rfl trivial (⟨hs_sx_r hz, rfl⟩)
            · refine b_iload_n rfl rfl ?_
              refine b_bipush rfl ?_
              refine b_icmp_le rfl (fun c_23 => ?_) (fun c_23 => ?_)
              · exact absurd (And.intro (by have := mt e1.mpr c_17; omega) (e2.mp c_23)) hzz
              · refine b_iconst rfl ?_
                exact b_ireturn rfl trivial (⟨hs_sx_r hz, rfl⟩)
    · rw [sp_at_out hy]
      refine b_aload_n rfl rfl ?_
      refine b_iload_n rfl rfl ?_
      refine b_callV rfl rfl hk_X_isKnot rfl rfl rfl (by first | rfl | assumption) rfl (Nat.le_of_ble_eq_true rfl) (q_X_isKnot hA0) (Nat.le_of_ble_eq_true rfl) (fun r_2 D_2 q_2 => ?_)
      obtain ⟨rfl, hq⟩ := q_2
      rw [if_pos hx] at hq
      subst hq
      refine b_if_eq rfl (fun c_5 => ?_) (fun c_5 => ?_)
      · exact absurd c_5 (by decide)
      · refine b_aload_n rfl rfl ?_
        refine b_iload_n rfl rfl ?_
        refine b_callV rfl rfl hk_X_isKnot rfl rfl rfl (by first | rfl | assumption) rfl (Nat.le_of_ble_eq_true rfl) (q_X_isKnot hA0) (Nat.le_of_ble_eq_true rfl) (fun r_10 D_10 q_10 => ?_)
        obtain ⟨rfl, hq⟩ := q_10
        rw [if_neg hy] at hq
        subst hq
        refine b_if_eq rfl (fun c_13 => ?_) (fun c_13 => ?_)
        · refine b_iconst rfl ?_
          exact b_ireturn rfl trivial (⟨hs_sx_r hz, rfl⟩)
        · exact absurd rfl c_13
  · rw [v_walks, sp_at_out hx]
    refine b_aload_n rfl rfl ?_
    refine b_iload_n rfl rfl ?_
    refine b_callV rfl rfl hk_X_isKnot rfl rfl rfl (by first | rfl | assumption) rfl (Nat.le_of_ble_eq_true rfl) (q_X_isKnot hA0) (Nat.le_of_ble_eq_true rfl) (fun r_2 D_2 q_2 => ?_)
    obtain ⟨rfl, hq⟩ := q_2
    rw [if_neg hx] at hq
    subst hq
    refine b_if_eq rfl (fun c_5 => ?_) (fun c_5 => ?_)
    · refine b_iconst rfl ?_
      exact b_ireturn rfl trivial (⟨hs_sx_r hz, rfl⟩)
    · exact absurd rfl c_5
end HNwalks
