section HNchance
variable {I I' : Nat → Nat → Int32} {J J' : Nat → Nat → Int64} {R : Nat → Nat → Option Nat} {t : Nat} {N : sp_N} {Q Q' S : sp_Q} {U : sp_U} {V : sp_V}
def ch_f (o : Nat) (s : Int32) (i : Nat) : Nat := if sp_bit s i then o else 10 - o
def ch_p (o : Nat) (s : Int32) : Nat → Nat := sp_up (fun i a => a * ch_f o s i) 1
def ch_w (o : Nat) (s : Int32) (h : Nat) : Nat → Nat := sp_up (fun i a => a * (if i < h then ch_f o s i else 10)) 1
def ch_q (N : sp_N) (Q : sp_Q) (p : Nat) (s : Int32) : Nat → sp_Q := sp_up (fun i q => (sp_hr N 0 (if sp_bit s i then nI p else -1) q).1) Q
def ch_s (N : sp_N) (Q : sp_Q) (p o h : Nat) : Nat → Nat := sp_up (fun k a => a + if qP (ch_q N Q p (nI k) h) p = -1 then ch_p o (nI k) h else 0) 0
theorem ch_f_le {o i : Nat} {s : Int32} (ho : o ≤ 10) : ch_f o s i ≤ 10 := by unfold ch_f; split <;> omega
theorem ch_p_le {o : Nat} {s : Int32} (ho : o ≤ 10) : ∀ h, ch_p o s h ≤ 10 ^ h
  | 0 => Nat.le_refl _
  | h + 1 => by
    show ch_p o s h * ch_f o s h ≤ 10 ^ (h + 1)
    rw [Nat.pow_succ]
    exact Nat.mul_le_mul (ch_p_le ho h) (ch_f_le ho)
theorem ch_w_le {o h : Nat} {s : Int32} (ho : o ≤ 10) : ∀ i, ch_w o s h i ≤ 10 ^ i
  | 0 => Nat.le_refl _
  | i + 1 => by
    show ch_w o s h i * (if i < h then ch_f o s i else 10) ≤ 10 ^ (i + 1)
    rw [Nat.pow_succ]
    refine Nat.mul_le_mul (ch_w_le ho i) ?_
    split
    · exact ch_f_le ho
    · omega
theorem ch_w_lo {o h : Nat} {s : Int32} : ∀ i, i ≤ h → ch_w o s h i = ch_p o s i
  | 0, _ => rfl
  | i + 1, hi => by
    show ch_w o s h i * (if i < h then ch_f o s i else 10) = ch_p o s i * ch_f o s i
    rw [ch_w_lo i (by omega), if_pos (by omega)]
theorem ch_w_hi {o h : Nat} {s : Int32} : ∀ m, ch_w o s h (h + m) = ch_p o s h * 10 ^ m
  | 0 => by rw [Nat.add_zero, ch_w_lo h (Nat.le_refl _), Nat.pow_zero, Nat.mul_one]
  | m + 1 => by
    show ch_w o s h (h + m) * (if h + m < h then ch_f o s (h + m) else 10) = _
    rw [ch_w_hi m, if_neg (by omega), Nat.pow_succ, Nat.mul_assoc]
theorem ch_w_6 {o h : Nat} {s : Int32} (hh : h ≤ 6) : ch_w o s h 6 = ch_p o s h * 10 ^ (6 - h) := by
  have := ch_w_hi (o := o) (h := h) (s := s) (6 - h)
  rw [show h + (6 - h) = 6 by omega] at this
  exact this
theorem ch_q_w {p : Nat} {s : Int32} (h4 : N.2.1 ≤ 4) (hw : hs_Qw N.1 N.2.1 Q) : ∀ i, hs_Qw N.1 N.2.1 (ch_q N Q p s i)
  | 0 => hw
  | i + 1 => sp_hr_w h4 (ch_q_w h4 hw i)
theorem nI_10 {o : Nat} (ho : o ≤ 10) : (10 : Int32) - nI o = nI (10 - o) := by
  rw [show (10 : Int32) = nI (10 - o) + nI o by rw [← nI_ad, show 10 - o + o = 10 by omega]; decide, Int32.add_sub_cancel]
theorem q_X_weightOf {k h o : Nat} (hh : h ≤ 6) (ho : o ≤ 10) : hn_F 0 hm_X_weightOf [.int (nI k), .int (nI h), .int (nI o)] (I, J, R) (fun r D' => D' = (I, J, R) ∧ r = some (.int (nI (ch_w o (nI k) h 6)))) := by
  refine hn_F_of _ hk_X_weightOf rfl (Nat.le_of_ble_eq_true rfl) ?_
  refine b_iconst rfl ?_
  refine b_istore_n rfl (Nat.le_of_ble_eq_true rfl) ?_
  refine b_iconst rfl ?_
  refine b_istore rfl (Nat.le_of_ble_eq_true rfl) ?_
  refine b_lp (sp_ind 6 (fun i => hn_B 0 hm_X_weightOf _ 5 [.int (nI k), .int (nI h), .int (nI o), .int (nI (ch_w o (nI k) h i)), .int (nI i), .null, .null] [] (I, J, R)) ?_ ?_) (le_e (le_e (le_e (le_q (by rfl) (le_q (by rw [nI_0]) (le_n (le_n le_0))))))) rfl rfl
  · refine b_iload rfl rfl ?_
    refine b_bipush rfl ?_
    refine b_icmp_ge rfl (fun c_9 => ?_) (fun c_9 => ?_)
    · refine b_iload_n rfl rfl ?_
      exact b_ireturn rfl trivial (⟨rfl, rfl⟩)
    · exact absurd (show (6 : Int32) ≤ nI 6 by decide) c_9
  · intro i hi ih
    have e : nI (ch_w o (nI k) h (i + 1)) = nI (ch_w o (nI k) h i) * nI (if i < h then ch_f o (nI k) i else 10) := by rw [← nI_ml]; rfl
    rw [e] at ih
    by_cases hb : sp_bit (nI k) i
    · by_cases hih : i < h
      · rw [if_pos hih, ch_f, if_pos hb] at ih
        refine b_iload rfl rfl ?_
        refine b_bipush rfl ?_
        refine b_icmp_ge rfl (fun c_9 => ?_) (fun c_9 => ?_)
        · exact absurd c_9 (nI_ge (b := 6) hi (by omega))
        · refine b_iload_n rfl rfl ?_
          refine b_iload rfl rfl ?_
          refine b_ishr rfl ?_
          refine b_iconst rfl ?_
          refine b_iand rfl ?_
          refine b_if_eq rfl (fun c_18 => ?_) (fun c_18 => ?_)
          · exact absurd c_18 hb
          · refine b_iconst rfl ?_
            refine b_goto rfl ?_
            refine b_istore rfl (Nat.le_of_ble_eq_true rfl) ?_
            refine b_iload rfl rfl ?_
            refine b_if_eq rfl (fun c_30 => ?_) (fun c_30 => ?_)
            · exact absurd c_30 (by decide)
            · refine b_iload_n rfl rfl ?_
              refine b_goto rfl ?_
              refine b_istore rfl (Nat.le_of_ble_eq_true rfl) ?_
              refine b_iload_n rfl rfl ?_
              refine b_iload rfl rfl ?_
              refine b_iload_n rfl rfl ?_
              refine b_icmp_ge rfl (fun c_47 => ?_) (fun c_47 => ?_)
              · exact absurd c_47 (nI_ge hih (by omega))
              · refine b_iload rfl rfl ?_
                refine b_goto rfl ?_
                refine b_imul rfl ?_
                refine b_istore_n rfl (Nat.le_of_ble_eq_true rfl) ?_
                refine b_iinc rfl rfl (Nat.le_of_ble_eq_true rfl) ?_
                refine b_goto rfl ?_
                exact b_lp ih (le_e (le_e (le_e (le_e (le_q (by rw [nI_succ]) (le_n (le_n le_0))))))) rfl rfl
      · rw [if_neg hih] at ih
        refine b_iload rfl rfl ?_
        refine b_bipush rfl ?_
        refine b_icmp_ge rfl (fun c_9 => ?_) (fun c_9 => ?_)
        · exact absurd c_9 (nI_ge (b := 6) hi (by omega))
        · refine b_iload_n rfl rfl ?_
          refine b_iload rfl rfl ?_
          refine b_ishr rfl ?_
          refine b_iconst rfl ?_
          refine b_iand rfl ?_
          refine b_if_eq rfl (fun c_18 => ?_) (fun c_18 => ?_)
          · exact absurd c_18 hb
          · refine b_iconst rfl ?_
            refine b_goto rfl ?_
            refine b_istore rfl (Nat.le_of_ble_eq_true rfl) ?_
            refine b_iload rfl rfl ?_
            refine b_if_eq rfl (fun c_30 => ?_) (fun c_30 => ?_)
            · exact absurd c_30 (by decide)
            · refine b_iload_n rfl rfl ?_
              refine b_goto rfl ?_
              refine b_istore rfl (Nat.le_of_ble_eq_true rfl) ?_
              refine b_iload_n rfl rfl ?_
              refine b_iload rfl rfl ?_
              refine b_iload_n rfl rfl ?_
              refine b_icmp_ge rfl (fun c_47 => ?_) (fun c_47 => ?_)
              · refine b_bipush rfl ?_
                refine b_imul rfl ?_
                refine b_istore_n rfl (Nat.le_of_ble_eq_true rfl) ?_
                refine b_iinc rfl rfl (Nat.le_of_ble_eq_true rfl) ?_
                refine b_goto rfl ?_
                exact b_lp ih (le_e (le_e (le_e (le_e (le_q (by rw [nI_succ]) (le_n (le_n le_0))))))) rfl rfl
              · exact absurd (nI_le (show h ≤ i by omega) (by omega)) c_47
    · by_cases hih : i < h
      · rw [if_pos hih, ch_f, if_neg hb] at ih
        refine b_iload rfl rfl ?_
        refine b_bipush rfl ?_
        refine b_icmp_ge rfl (fun c_9 => ?_) (fun c_9 => ?_)
        · exact absurd c_9 (nI_ge (b := 6) hi (by omega))
        · refine b_iload_n rfl rfl ?_
          refine b_iload rfl rfl ?_
          refine b_ishr rfl ?_
          refine b_iconst rfl ?_
          refine b_iand rfl ?_
          refine b_if_eq rfl (fun c_18 => ?_) (fun c_18 => ?_)
          · refine b_iconst rfl ?_
            refine b_istore rfl (Nat.le_of_ble_eq_true rfl) ?_
            refine b_iload rfl rfl ?_
            refine b_if_eq rfl (fun c_30 => ?_) (fun c_30 => ?_)
            · refine b_bipush rfl ?_
              refine b_iload_n rfl rfl ?_
              refine b_isub rfl ?_
              rw [nI_10 ho]
              refine b_istore rfl (Nat.le_of_ble_eq_true rfl) ?_
              refine b_iload_n rfl rfl ?_
              refine b_iload rfl rfl ?_
              refine b_iload_n rfl rfl ?_
              refine b_icmp_ge rfl (fun c_47 => ?_) (fun c_47 => ?_)
              · exact absurd c_47 (nI_ge hih (by omega))
              · refine b_iload rfl rfl ?_
                refine b_goto rfl ?_
                refine b_imul rfl ?_
                refine b_istore_n rfl (Nat.le_of_ble_eq_true rfl) ?_
                refine b_iinc rfl rfl (Nat.le_of_ble_eq_true rfl) ?_
                refine b_goto rfl ?_
                exact b_lp ih (le_e (le_e (le_e (le_e (le_q (by rw [nI_succ]) (le_n (le_n le_0))))))) rfl rfl
            · exact absurd rfl c_30
          · exact absurd c_18 hb
      · rw [if_neg hih] at ih
        refine b_iload rfl rfl ?_
        refine b_bipush rfl ?_
        refine b_icmp_ge rfl (fun c_9 => ?_) (fun c_9 => ?_)
        · exact absurd c_9 (nI_ge (b := 6) hi (by omega))
        · refine b_iload_n rfl rfl ?_
          refine b_iload rfl rfl ?_
          refine b_ishr rfl ?_
          refine b_iconst rfl ?_
          refine b_iand rfl ?_
          refine b_if_eq rfl (fun c_18 => ?_) (fun c_18 => ?_)
          · refine b_iconst rfl ?_
            refine b_istore rfl (Nat.le_of_ble_eq_true rfl) ?_
            refine b_iload rfl rfl ?_
            refine b_if_eq rfl (fun c_30 => ?_) (fun c_30 => ?_)
            · refine b_bipush rfl ?_
              refine b_iload_n rfl rfl ?_
              refine b_isub rfl ?_
              refine b_istore rfl (Nat.le_of_ble_eq_true rfl) ?_
              refine b_iload_n rfl rfl ?_
              refine b_iload rfl rfl ?_
              refine b_iload_n rfl rfl ?_
              refine b_icmp_ge rfl (fun c_47 => ?_) (fun c_47 => ?_)
              · refine b_bipush rfl ?_
                refine b_imul rfl ?_
                refine b_istore_n rfl (Nat.le_of_ble_eq_true rfl) ?_
                refine b_iinc rfl rfl (Nat.le_of_ble_eq_true rfl) ?_
                refine b_goto rfl ?_
                exact b_lp ih (le_e (le_e (le_e (le_e (le_q (by rw [nI_succ]) (le_n (le_n le_0))))))) rfl rfl
              · exact absurd (nI_le (show h ≤ i by omega) (by omega)) c_47
            · exact absurd rfl c_30
          · exact absurd c_18 hb
theorem q_X_isUpBehind {k p h : Nat} (hA : hs_A I R t N Q) (hp : p < N.2.1) (hh : h ≤ 6) (hf : ∀ b, ¬ hs_xs t b → I' b = I b) (hz' : hs_z I' 49) : hn_F 6 hm_X_isUpBehind [.ref 0, .int (nI p), .int (nI h), .int (nI k)] (I', J, R) (fun r D' => (∃ I2, D' = (I2, J, R) ∧ (∀ b, ¬ hs_xs t b → I2 b = I b) ∧ hs_z I2 49) ∧ r = some (.int (if qP (ch_q N Q p (nI k) h) p = -1 then 1 else 0))) := by
  have hA0 := hA
  obtain ⟨hR, r2, ht, hN, hX, hw, hz, hAw⟩ := hA
  have hN0 := hN
  have hX0 := hX
  have hw0 := hw
  obtain ⟨n0, n8, n4, nk, nh, na, hc, ncd⟩ := hN
  obtain ⟨x1, x2, x3, x4, x5, x6, x7⟩ := hX
  obtain ⟨r6, r7, r8, r11, r12, r13, r14, r15, r16, r17, r18⟩ := hs_x0 hR
  have hSt := hs_St_of hR (show 44 ∈ hs_sc by decide)
  have hNt := hs_Net_of hR ht
  obtain ⟨_, sk0, sk1, sk2, sk3, sk4, g0, g1, g2, g3⟩ := id hSt
  obtain ⟨tt5, tn0, tn1, tn2, tn3, tn4, tn5, tn6, tn7, tn8, tn9, tn10, ts1, ts2, ts3, ts4, ts5, ts7, ts8, tl0, tl2, tl6, tl7⟩ := id hNt
  have hSt9 := hs_St_of hR (show 49 ∈ hs_sc by decide)
  have hqw := ch_q_w (p := p) (s := nI k) n4 hw0
  refine hn_F_of _ hk_X_isUpBehind rfl (Nat.le_of_ble_eq_true rfl) ?_
  obtain ⟨P, hPd⟩ : ∃ P : Option Value → hnD → Prop, P = (fun r D' => (∃ I2, D' = (I2, J, R) ∧ (∀ b, ¬ hs_xs t b → I2 b = I b) ∧ hs_z I2 49) ∧ r = some (.int (if qP (ch_q N Q p (nI k) h) p = -1 then 1 else 0))) := ⟨_, rfl⟩
  rw [← hPd]
  have lp : ∀ I', hs_xt t N I (ch_q N Q p (nI k) 0) 0 I' → hn_B 6 hm_X_isUpBehind P 14 [.ref 0, .int (nI p), .int (nI h), .int (nI k), .int (nI 0), .null] [] (I', J, R) := by
    refine sp_ind h (fun i => ∀ I', hs_xt t N I (ch_q N Q p (nI k) i) 0 I' → hn_B 6 hm_X_isUpBehind P 14 [.ref 0, .int (nI p), .int (nI h), .int (nI k), .int (nI i), .null] [] (I', J, R)) ?_ ?_
    · intro I' g
      by_cases hup : qP (ch_q N Q p (nI k) h) p = -1
      · refine b_iload rfl rfl ?_
        refine b_iload_n rfl rfl ?_
        refine b_icmp_ge rfl (fun c_17 => ?_) (fun c_17 => ?_)
        · refine b_aload_n rfl rfl ?_
          refine b_getR rfl (by first | rfl | assumption) rfl (by assumption) ?_
          refine b_iload_n rfl rfl ?_
          refine b_callV rfl rfl hk_State_isLying rfl rfl rfl (by first | rfl | assumption) rfl (Nat.le_of_ble_eq_true rfl) (q_State_isLying hSt9 (show p < 4 by omega)) (Nat.le_of_ble_eq_true rfl) (fun r_69 D_69 q_69 => ?_)
          obtain ⟨rfl, hq⟩ := q_69
          rw [P3_p g.2.1.2.2.1 (by omega), if_pos hup] at hq
          subst hq
          refine b_if_ne rfl (fun c_72 => ?_) (fun c_72 => ?_)
          · exact absurd rfl c_72
          · refine b_iconst rfl ?_
            refine b_goto rfl ?_
            exact b_ireturn rfl (by first | exact Or.inl rfl | exact Or.inr rfl | exact trivial) ((by rw [hPd]; exact ⟨⟨I', rfl, g.1, hs_xt_z hA0 g⟩, by rw [if_pos hup]⟩))
        · exact absurd (nI_le (Nat.le_refl _) (by omega)) c_17
      · refine b_iload rfl rfl ?_
        refine b_iload_n rfl rfl ?_
        refine b_icmp_ge rfl (fun c_17 => ?_) (fun c_17 => ?_)
        · refine b_aload_n rfl rfl ?_
          refine b_getR rfl (by first | rfl | assumption) rfl (by assumption) ?_
          refine b_iload_n rfl rfl ?_
          refine b_callV rfl rfl hk_State_isLying rfl rfl rfl (by first | rfl | assumption) rfl (Nat.le_of_ble_eq_true rfl) (q_State_isLying hSt9 (show p < 4 by omega)) (Nat.le_of_ble_eq_true rfl) (fun r_69 D_69 q_69 => ?_)
          obtain ⟨rfl, hq⟩ := q_69
          rw [P3_p g.2.1.2.2.1 (by omega), if_neg hup] at hq
          subst hq
          refine b_if_ne rfl (fun c_72 => ?_) (fun c_72 => ?_)
          · refine b_iconst rfl ?_
            exact b_ireturn rfl (by first | exact Or.inl rfl | exact Or.inr rfl | exact trivial) ((by rw [hPd]; exact ⟨⟨I', rfl, g.1, hs_xt_z hA0 g⟩, by rw [if_neg hup]⟩))
          · exact absurd c_72 (by decide)
        · exact absurd (nI_le (Nat.le_refl _) (by omega)) c_17
    · intro i hi ih I' g
      have e : ch_q N Q p (nI k) (i + 1) = (sp_hr N 0 (if sp_bit (nI k) i then nI p else -1) (ch_q N Q p (nI k) i)).1 := rfl
      rw [e] at ih
      by_cases hb : sp_bit (nI k) i
      · rw [if_pos hb] at ih
        refine b_iload rfl rfl ?_
        refine b_iload_n rfl rfl ?_
        refine b_icmp_ge rfl (fun c_17 => ?_) (fun c_17 => ?_)
        · exact absurd c_17 (nI_ge hi (by omega))
        · refine b_iload_n rfl rfl ?_
          refine b_iload rfl rfl ?_
          refine b_ishr rfl ?_
          refine b_iconst rfl ?_
          refine b_iand rfl ?_
          refine b_if_eq rfl (fun c_26 => ?_) (fun c_26 => ?_)
          · exact absurd c_26 hb
          · refine b_iconst rfl ?_
            refine b_goto rfl ?_
            refine b_istore rfl (Nat.le_of_ble_eq_true rfl) ?_
            refine b_aload_n rfl rfl ?_
            refine b_getR rfl (by first | rfl | assumption) rfl (by assumption) ?_
            refine b_aload_n rfl rfl ?_
            refine b_getR rfl (by first | rfl | assumption) rfl (by assumption) ?_
            refine b_iload rfl rfl ?_
            refine b_if_eq rfl (fun c_46 => ?_) (fun c_46 => ?_)
            · exact absurd c_46 (by decide)
            · refine b_iload_n rfl rfl ?_
              refine b_goto rfl ?_
              refine b_callV rfl rfl hk_State_passHour rfl rfl rfl (by first | rfl | assumption) rfl (Nat.le_of_ble_eq_true rfl) (qx_th (odd := nI p) hA0 g) (Nat.le_of_ble_eq_true rfl) (fun r_54 D_54 q_54 => ?_)
              obtain ⟨⟨I2, rfl, g2⟩, rfl⟩ := q_54
              refine b_pop rfl rfl ?_
              refine b_iinc rfl rfl (Nat.le_of_ble_eq_true rfl) ?_
              refine b_goto rfl ?_
              exact b_lp (ih I2 g2) (le_e (le_e (le_e (le_e (le_q (by rw [nI_succ]) (le_n le_0)))))) rfl rfl
      · rw [if_neg hb] at ih
        refine b_iload rfl rfl ?_
        refine b_iload_n rfl rfl ?_
        refine b_icmp_ge rfl (fun c_17 => ?_) (fun c_17 => ?_)
        · exact absurd c_17 (nI_ge hi (by omega))
        · refine b_iload_n rfl rfl ?_
          refine b_iload rfl rfl ?_
          refine b_ishr rfl ?_
          refine b_iconst rfl ?_
          refine b_iand rfl ?_
          refine b_if_eq rfl (fun c_26 => ?_) (fun c_26 => ?_)
          · refine b_iconst rfl ?_
            refine b_istore rfl (Nat.le_of_ble_eq_true rfl) ?_
            refine b_aload_n rfl rfl ?_
            refine b_getR rfl (by first | rfl | assumption) rfl (by assumption) ?_
            refine b_aload_n rfl rfl ?_
            refine b_getR rfl (by first | rfl | assumption) rfl (by assumption) ?_
            refine b_iload rfl rfl ?_
            refine b_if_eq rfl (fun c_46 => ?_) (fun c_46 => ?_)
            · refine b_iconst rfl ?_
              refine b_callV rfl rfl hk_State_passHour rfl rfl rfl (by first | rfl | assumption) rfl (Nat.le_of_ble_eq_true rfl) (qx_th (odd := -1) hA0 g) (Nat.le_of_ble_eq_true rfl) (fun r_54 D_54 q_54 => ?_)
              obtain ⟨⟨I2, rfl, g2⟩, rfl⟩ := q_54
              refine b_pop rfl rfl ?_
              refine b_iinc rfl rfl (Nat.le_of_ble_eq_true rfl) ?_
              refine b_goto rfl ?_
              exact b_lp (ih I2 g2) (le_e (le_e (le_e (le_e (le_q (by rw [nI_succ]) (le_n le_0)))))) rfl rfl
            · exact absurd rfl c_46
          · exact absurd c_26 hb
  refine b_aload_n rfl rfl ?_
  refine b_getR rfl (by first | rfl | assumption) rfl (by assumption) ?_
  refine b_aload_n rfl rfl ?_
  refine b_getR rfl (by first | rfl | assumption) rfl (by assumption) ?_
  refine b_callV rfl rfl hk_State_copy rfl rfl rfl (by first | rfl | assumption) rfl (Nat.le_of_ble_eq_true rfl) (qx_tc hA0 hf hz' rfl) (Nat.le_of_ble_eq_true rfl) (fun r_8 D_8 q_8 => ?_)
  obtain ⟨rfl, I1, rfl, h1⟩ := q_8
  refine b_iconst rfl ?_
  refine b_istore rfl (Nat.le_of_ble_eq_true rfl) ?_
  exact b_lp (lp I1 h1) (le_e (le_e (le_e (le_e (le_q (by rw [nI_0]) (le_n le_0)))))) rfl rfl
abbrev ch_ok (y z : Int32) : Prop := (1 ≤ y.toInt ∧ y.toInt ≤ 6) ∧ 0 ≤ z.toInt ∧ z.toInt ≤ 10
def v_chance (N : sp_N) (Q : sp_Q) (x y z : Int32) : Int32 := sp_at x N.2.1 (fun p => if qP Q p = -1 then -1 else if ch_ok y z then nI (ch_s N Q p z.toInt.toNat y.toInt.toNat (2 ^ y.toInt.toNat) * 10 ^ (6 - y.toInt.toNat)) else -1) (-1)
theorem ch_s_le {p o h : Nat} (ho : o ≤ 10) : ∀ k, ch_s N Q p o h k ≤ k * 10 ^ h
  | 0 => Nat.zero_le _
  | k + 1 => by
    have ih : ch_s N Q p o h k ≤ k * 10 ^ h := ch_s_le ho k
    show ch_s N Q p o h k + (if qP (ch_q N Q p (nI k) h) p = -1 then ch_p o (nI k) h else 0) ≤ _
    rw [Nat.add_mul, Nat.one_mul]
    refine Nat.add_le_add ih ?_
    split
    · exact ch_p_le ho h
    · exact Nat.zero_le _
theorem ch_shl {h : Nat} (hh : h ≤ 6) : (1 : Int32) <<< (nI h &&& 31) = nI (2 ^ h) := nI_shl (by omega)
theorem ch_2h {h : Nat} (hh : h ≤ 6) : 2 ^ h ≤ 64 := (Nat.pow_le_pow_right (by omega) hh : 2 ^ h ≤ 2 ^ 6)
theorem q_X_chance {x y z : Int32} (hA : hs_A I R t N Q) : hn_F 7 hm_X_chance [.ref 0, .int x, .int y, .int z] (I, J, R) (fun r D' => hs_sx t I J R D' ∧ r = some (.int (v_chance N Q x y z))) := by
  have hA0 := hA
  obtain ⟨hR, r2, ht, hN, hX, hw, hz, hAw⟩ := hA
  have hN0 := hN
  have hX0 := hX
  have hw0 := hw
  obtain ⟨n0, n8, n4, nk, nh, na, hc, ncd⟩ := hN
  obtain ⟨x1, x2, x3, x4, x5, x6, x7⟩ := hX
  obtain ⟨r6, r7, r8, r11, r12, r13, r14, r15, r16, r17, r18⟩ := hs_x0 hR
  have hSt := hs_St_of hR (show 44 ∈ hs_sc by decide)
  have hNt := hs_Net_of hR ht
  obtain ⟨_, sk0, sk1, sk2, sk3, sk4, g0, g1, g2, g3⟩ := id hSt
  obtain ⟨tt5, tn0, tn1, tn2, tn3, tn4, tn5, tn6, tn7, tn8, tn9, tn10, ts1, ts2, ts3, ts4, ts5, ts7, ts8, tl0, tl2, tl6, tl7⟩ := id hNt
  have t6 : (6 : Int32).toInt = 6 := rfl
  have t10 : (10 : Int32).toInt = 10 := rfl
  refine hn_F_of _ hk_X_chance rfl (Nat.le_of_ble_eq_true rfl) ?_
  by_cases hx : sp_in x N.2.1
  · obtain ⟨p, hp, rfl⟩ := sp_in_nat hx
    rw [v_chance, sp_at_in hp (by omega)]
    by_cases hl : qP Q p = -1
    · rw [if_pos hl]
      refine b_aload_n rfl rfl ?_
      refine b_iload_n rfl rfl ?_
      refine b_callV rfl rfl hk_X_isPerson rfl rfl rfl (by first | rfl | assumption) rfl (Nat.le_of_ble_eq_true rfl) (q_X_isPerson hA0) (Nat.le_of_ble_eq_true rfl) (fun r_2 D_2 q_2 => ?_)
      obtain ⟨rfl, hq⟩ := q_2
      rw [if_pos hx] at hq
      subst hq
      refine b_if_eq rfl (fun c_5 => ?_) (fun c_5 => ?_)
      · exact absurd c_5 (by decide)
      · refine b_aload_n rfl rfl ?_
        refine b_getR rfl (by first | rfl | assumption) rfl (by assumption) ?_
        refine b_iload_n rfl rfl ?_
        refine b_callV rfl rfl hk_State_isLying rfl rfl rfl (by first | rfl | assumption) rfl (Nat.le_of_ble_eq_true rfl) (q_State_isLying hSt (show p < 4 by omega)) (Nat.le_of_ble_eq_true rfl) (fun r_13 D_13 q_13 => ?_)
        obtain ⟨rfl, hq⟩ := q_13
        rw [P3_p x3 (by omega), if_pos hl] at hq
        subst hq
        refine b_if_ne rfl (fun c_16 => ?_) (fun c_16 => ?_)
        · exact absurd rfl c_16
        · refine b_iconst rfl ?_
          exact b_ireturn rfl trivial (⟨hs_sx_r hz, rfl⟩)
    · rw [if_neg hl]
      by_cases hok : ch_ok y z
      · rw [if_pos hok]
        obtain ⟨hy, hz9⟩ := id hok
        obtain ⟨h, hh, hym⟩ : ∃ m, m ≤ 6 ∧ y = nI m := ⟨y.toInt.toNat, by omega, hi_nI (by omega)⟩
        have hyh : y.toInt.toNat = h := by rw [hym, nI_toInt (by omega)]; omega
        obtain ⟨o, ho, hzm⟩ : ∃ m, m ≤ 10 ∧ z = nI m := ⟨z.toInt.toNat, by omega, hi_nI (by omega)⟩
        have hzh : z.toInt.toNat = o := by rw [hzm, nI_toInt (by omega)]; omega
        rw [hyh, hzh]
        subst hym; subst hzm
        have h64 := ch_2h hh
        obtain ⟨P, hPd⟩ : ∃ P : Option Value → hnD → Prop, P = (fun r D' => hs_sx t I J R D' ∧ r = some (.int (nI (ch_s N Q p o h (2 ^ h) * 10 ^ (6 - h))))) := ⟨_, rfl⟩
        rw [← hPd]
        have lp : ∀ I', (∀ b, ¬ hs_xs t b → I' b = I b) → hs_z I' 49 → hn_B 7 hm_X_chance P 50 [.ref 0, .int (nI p), .int (nI h), .int (nI o), .int (nI (ch_s N Q p o h 0 * 10 ^ (6 - h))), .int (nI 0), .null] [] (I', J, R) := by
          refine sp_ind (2 ^ h) (fun k => ∀ I', (∀ b, ¬ hs_xs t b → I' b = I b) → hs_z I' 49 → hn_B 7 hm_X_chance P 50 [.ref 0, .int (nI p), .int (nI h), .int (nI o), .int (nI (ch_s N Q p o h k * 10 ^ (6 - h))), .int (nI k), .null] [] (I', J, R)) ?_ ?_
          · intro I' hf hz'
            refine b_iload rfl rfl ?_
            refine b_iconst rfl ?_
            refine b_iload_n rfl rfl ?_
            refine b_ishl rfl ?_
            rw [ch_shl hh]
            refine b_icmp_ge rfl (fun c_55 => ?_) (fun c_55 => ?_)
            · refine b_iload rfl rfl ?_
              exact b_ireturn rfl trivial ((by rw [hPd]; exact ⟨⟨rfl, hf, fun _ _ _ _ => rfl, hz'⟩, rfl⟩))
            · exact absurd (nI_le (Nat.le_refl _) (by omega)) c_55
          · intro k hk ih I' hf hz'
            have e : ch_s N Q p o h (k + 1) * 10 ^ (6 - h) = ch_s N Q p o h k * 10 ^ (6 - h) + (if qP (ch_q N Q p (nI k) h) p = -1 then ch_w o (nI k) h 6 else 0) := by
              show (ch_s N Q p o h k + (if qP (ch_q N Q p (nI k) h) p = -1 then ch_p o (nI k) h else 0)) * 10 ^ (6 - h) = _
              rw [Nat.add_mul, ch_w_6 hh]
              split
              · rfl
              · rw [Nat.zero_mul]
            rw [e, nI_ad] at ih
            have hwle : ch_w o (nI k) h 6 ≤ 1000000 := ch_w_le ho 6
            by_cases hw0 : ch_w o (nI k) h 6 = 0
            · have e0 : nI (if qP (ch_q N Q p (nI k) h) p = -1 then ch_w o (nI k) h 6 else 0) = 0 := by rw [hw0]; split <;> rfl
              rw [e0, Int32.add_zero] at ih
              refine b_iload rfl rfl ?_
              refine b_iconst rfl ?_
              refine b_iload_n rfl rfl ?_
              refine b_ishl rfl ?_
              rw [ch_shl hh]
              refine b_icmp_ge rfl (fun c_55 => ?_) (fun c_55 => ?_)
              · exact absurd c_55 (nI_ge hk (by omega))
              · refine b_iload rfl rfl ?_
                refine b_iload_n rfl rfl ?_
                refine b_iload_n rfl rfl ?_
                refine b_callS rfl rfl hk_X_weightOf rfl rfl rfl (Nat.le_of_ble_eq_true rfl) (q_X_weightOf hh ho) (Nat.le_of_ble_eq_true rfl) (fun r_62 D_62 q_62 => ?_)
                obtain ⟨rfl, hq⟩ := q_62
                rw [hw0] at hq
                subst hq
                refine b_istore rfl (Nat.le_of_ble_eq_true rfl) ?_
                refine b_iload rfl rfl ?_
                refine b_if_le rfl (fun c_69 => ?_) (fun c_69 => ?_)
                · refine b_iinc rfl rfl (Nat.le_of_ble_eq_true rfl) ?_
                  refine b_goto rfl ?_
                  exact b_lp (ih I' hf hz') (le_e (le_e (le_e (le_e (le_e (le_q (by rw [nI_succ]) (le_n le_0))))))) rfl rfl
                · exact absurd (show nI 0 ≤ 0 by decide) c_69
            · have hwp : ¬ nI (ch_w o (nI k) h 6) ≤ 0 := fun z9 => by
                have := (hi_le (nI_toInt (n := ch_w o (nI k) h 6) (by omega)) hi_t0).mp z9
                omega
              by_cases hup : qP (ch_q N Q p (nI k) h) p = -1
              · rw [if_pos hup] at ih
                refine b_iload rfl rfl ?_
                refine b_iconst rfl ?_
                refine b_iload_n rfl rfl ?_
                refine b_ishl rfl ?_
                rw [ch_shl hh]
                refine b_icmp_ge rfl (fun c_55 => ?_) (fun c_55 => ?_)
                · exact absurd c_55 (nI_ge hk (by omega))
                · refine b_iload rfl rfl ?_
                  refine b_iload_n rfl rfl ?_
                  refine b_iload_n rfl rfl ?_
                  refine b_callS rfl rfl hk_X_weightOf rfl rfl rfl (Nat.le_of_ble_eq_true rfl) (q_X_weightOf hh ho) (Nat.le_of_ble_eq_true rfl) (fun r_62 D_62 q_62 => ?_)
                  obtain ⟨rfl, rfl⟩ := q_62
                  refine b_istore rfl (Nat.le_of_ble_eq_true rfl) ?_
                  refine b_iload rfl rfl ?_
                  refine b_if_le rfl (fun c_69 => ?_) (fun c_69 => ?_)
                  · exact absurd c_69 hwp
                  · refine b_aload_n rfl rfl ?_
                    refine b_iload_n rfl rfl ?_
                    refine b_iload_n rfl rfl ?_
                    refine b_iload rfl rfl ?_
                    refine b_callV rfl rfl hk_X_isUpBehind rfl rfl rfl (by first | rfl | assumption) rfl (Nat.le_of_ble_eq_true rfl) (q_X_isUpBehind hA0 hp hh hf hz') (Nat.le_of_ble_eq_true rfl) (fun r_77 D_77 q_77 => ?_)
                    obtain ⟨⟨I2, rfl, hf2, hz2⟩, hq⟩ := q_77
                    rw [if_pos hup] at hq
                    subst hq
                    refine b_if_eq rfl (fun c_80 => ?_) (fun c_80 => ?_)
                    · exact absurd c_80 (by decide)
                    · refine b_iload rfl rfl ?_
                      refine b_iload rfl rfl ?_
                      refine b_iadd rfl ?_
                      refine b_istore rfl (Nat.le_of_ble_eq_true rfl) ?_
                      refine b_iinc rfl rfl (Nat.le_of_ble_eq_true rfl) ?_
                      refine b_goto rfl ?_
                      exact b_lp (ih I2 hf2 hz2) (le_e (le_e (le_e (le_e (le_e (le_q (by rw [nI_succ]) (le_n le_0))))))) rfl rfl
              · rw [if_neg hup, nI_0, Int32.add_zero] at ih
                refine b_iload rfl rfl ?_
                refine b_iconst rfl ?_
                refine b_iload_n rfl rfl ?_
                refine b_ishl rfl ?_
                rw [ch_shl hh]
                refine b_icmp_ge rfl (fun c_55 => ?_) (fun c_55 => ?_)
                · exact absurd c_55 (nI_ge hk (by omega))
                · refine b_iload rfl rfl ?_
                  refine b_iload_n rfl rfl ?_
                  refine b_iload_n rfl rfl ?_
                  refine b_callS rfl rfl hk_X_weightOf rfl rfl rfl (Nat.le_of_ble_eq_true rfl) (q_X_weightOf hh ho) (Nat.le_of_ble_eq_true rfl) (fun r_62 D_62 q_62 => ?_)
                  obtain ⟨rfl, rfl⟩ := q_62
                  refine b_istore rfl (Nat.le_of_ble_eq_true rfl) ?_
                  refine b_iload rfl rfl ?_
                  refine b_if_le rfl (fun c_69 => ?_) (fun c_69 => ?_)
                  · exact absurd c_69 hwp
                  · refine b_aload_n rfl rfl ?_
                    refine b_iload_n rfl rfl ?_
                    refine b_iload_n rfl rfl ?_
                    refine b_iload rfl rfl ?_
                    refine b_callV rfl rfl hk_X_isUpBehind rfl rfl rfl (by first | rfl | assumption) rfl (Nat.le_of_ble_eq_true rfl) (q_X_isUpBehind hA0 hp hh hf hz') (Nat.le_of_ble_eq_true rfl) (fun r_77 D_77 q_77 => ?_)
                    obtain ⟨⟨I2, rfl, hf2, hz2⟩, hq⟩ := q_77
                    rw [if_neg hup] at hq
                    subst hq
                    refine b_if_eq rfl (fun c_80 => ?_) (fun c_80 => ?_)
                    · refine b_iinc rfl rfl (Nat.le_of_ble_eq_true rfl) ?_
                      refine b_goto rfl ?_
                      exact b_lp (ih I2 hf2 hz2) (le_e (le_e (le_e (le_e (le_e (le_q (by rw [nI_succ]) (le_n le_0))))))) rfl rfl
                    · exact absurd rfl c_80
        refine b_aload_n rfl rfl ?_
        refine b_iload_n rfl rfl ?_
        refine b_callV rfl rfl hk_X_isPerson rfl rfl rfl (by first | rfl | assumption) rfl (Nat.le_of_ble_eq_true rfl) (q_X_isPerson hA0) (Nat.le_of_ble_eq_true rfl) (fun r_2 D_2 q_2 => ?_)
        obtain ⟨rfl, hq⟩ := q_2
        rw [if_pos hx] at hq
        subst hq
        refine b_if_eq rfl (fun c_5 => ?_) (fun c_5 => ?_)
        · exact absurd c_5 (by decide)
        · refine b_aload_n rfl rfl ?_
          refine b_getR rfl (by first | rfl | assumption) rfl (by assumption) ?_
          refine b_iload_n rfl rfl ?_
          refine b_callV rfl rfl hk_State_isLying rfl rfl rfl (by first | rfl | assumption) rfl (Nat.le_of_ble_eq_true rfl) (q_State_isLying hSt (show p < 4 by omega)) (Nat.le_of_ble_eq_true rfl) (fun r_13 D_13 q_13 => ?_)
          obtain ⟨rfl, hq⟩ := q_13
          rw [P3_p x3 (by omega), if_neg hl] at hq
          subst hq
          refine b_if_ne rfl (fun c_16 => ?_) (fun c_16 => ?_)
          · refine b_iload_n rfl rfl ?_
            refine b_iconst rfl ?_
            refine b_icmp_lt rfl (fun c_23 => ?_) (fun c_23 => ?_)
            · exact absurd ((hi_lt rfl hi_t1).mp c_23) (by omega)
            · refine b_iload_n rfl rfl ?_
              refine b_bipush rfl ?_
              refine b_icmp_gt rfl (fun c_29 => ?_) (fun c_29 => ?_)
              · exact absurd ((hi_lt t6 rfl).mp c_29) (by omega)
              · refine b_iload_n rfl rfl ?_
                refine b_if_lt rfl (fun c_33 => ?_) (fun c_33 => ?_)
                · exact absurd ((hi_lt rfl hi_t0).mp c_33) (by omega)
                · refine b_iload_n rfl rfl ?_
                  refine b_bipush rfl ?_
                  refine b_icmp_le rfl (fun c_39 => ?_) (fun c_39 => ?_)
                  · refine b_iconst rfl ?_
                    refine b_istore rfl (Nat.le_of_ble_eq_true rfl) ?_
                    refine b_iconst rfl ?_
                    refine b_istore rfl (Nat.le_of_ble_eq_true rfl) ?_
                    exact b_lp (lp I (fun _ _ => rfl) hz) (le_e (le_e (le_e (le_e (le_q (by rw [show ch_s N Q p o h 0 = 0 from rfl, Nat.zero_mul]; rfl) (le_q (by rw [nI_0]) (le_n le_0))))))) rfl rfl
                  · exact absurd ((hi_le rfl t10).mpr hz9.2) c_39
          · exact absurd c_16 (by decide)
      · rw [if_neg hok]
        refine b_aload_n rfl rfl ?_
        refine b_iload_n rfl rfl ?_
        refine b_callV rfl rfl hk_X_isPerson rfl rfl rfl (by first | rfl | assumption) rfl (Nat.le_of_ble_eq_true rfl) (q_X_isPerson hA0) (Nat.le_of_ble_eq_true rfl) (fun r_2 D_2 q_2 => ?_)
        obtain ⟨rfl, hq⟩ := q_2
        rw [if_pos hx] at hq
        subst hq
        refine b_if_eq rfl (fun c_5 => ?_) (fun c_5 => ?_)
        · exact absurd c_5 (by decide)
        · refine b_aload_n rfl rfl ?_
          refine b_getR rfl (by first | rfl | assumption) rfl (by assumption) ?_
          refine b_iload_n rfl rfl ?_
          refine b_callV rfl rfl hk_State_isLying rfl rfl rfl (by first | rfl | assumption) rfl (Nat.le_of_ble_eq_true rfl) (q_State_isLying hSt (show p < 4 by omega)) (Nat.le_of_ble_eq_true rfl) (fun r_13 D_13 q_13 => ?_)
          obtain ⟨rfl, hq⟩ := q_13
          rw [P3_p x3 (by omega), if_neg hl] at hq
          subst hq
          refine b_if_ne rfl (fun c_16 => ?_) (fun c_16 => ?_)
          · refine b_iload_n rfl rfl ?_
            refine b_iconst rfl ?_
            refine b_icmp_lt rfl (fun c_23 => ?_) (fun c_23 => ?_)
            · refine b_iconst rfl ?_
              exact b_ireturn rfl trivial (⟨hs_sx_r hz, rfl⟩)
            · refine b_iload_n rfl rfl ?_
              refine b_bipush rfl ?_
              refine b_icmp_gt rfl (fun c_29 => ?_) (fun c_29 => ?_)
              · refine b_iconst rfl ?_
                exact b_ireturn rfl trivial (⟨hs_sx_r hz, rfl⟩)
              · refine b_iload_n rfl rfl ?_
                refine b_if_lt rfl (fun c_33 => ?_) (fun c_33 => ?_)
                · refine b_iconst rfl ?_
                  exact b_ireturn rfl trivial (⟨hs_sx_r hz, rfl⟩)
                · refine b_iload_n rfl rfl ?_
                  refine b_bipush rfl ?_
                  refine b_icmp_le rfl (fun c_39 => ?_) (fun c_39 => ?_)
                  · exact absurd ⟨⟨by have := mt (hi_lt (x := y) rfl hi_t1).mpr c_23; omega, by have := mt (hi_lt (y := y) t6 rfl).mpr c_29; omega⟩, by have := mt (hi_lt (x := z) rfl hi_t0).mpr c_33; omega, (hi_le rfl t10).mp c_39⟩ hok
                  · refine b_iconst rfl ?_
                    exact b_ireturn rfl trivial (⟨hs_sx_r hz, rfl⟩)
          · exact absurd c_16 (by decide)
  · rw [v_chance, sp_at_out hx]
    refine b_aload_n rfl rfl ?_
    refine b_iload_n rfl rfl ?_
    refine b_callV rfl rfl hk_X_isPerson rfl rfl rfl (by first | rfl | assumption) rfl (Nat.le_of_ble_eq_true rfl) (q_X_isPerson hA0) (Nat.le_of_ble_eq_true rfl) (fun r_2 D_2 q_2 => ?_)
    obtain ⟨rfl, hq⟩ := q_2
    rw [if_neg hx] at hq
    subst hq
    refine b_if_eq rfl (fun c_5 => ?_) (fun c_5 => ?_)
    · refine b_iconst rfl ?_
      exact b_ireturn rfl trivial (⟨hs_sx_r hz, rfl⟩)
    · exact absurd rfl c_5
/-! the reference's -/
def nJ (n : Nat) : Int64 := Int64.ofNat n
theorem nJ_toInt {n : Nat} (h : n < 9223372036854775808) : (nJ n).toInt = (n : Int) := Int64.toInt_ofNat_of_lt (by omega)
theorem nJ_ml (a b : Nat) : nJ (a * b) = nJ a * nJ b := Int64.ofNat_mul a b
theorem nJ_ad (a b : Nat) : nJ (a + b) = nJ a + nJ b := Int64.ofNat_add a b
theorem nI_J {n : Nat} (h : n < 2147483648) : (nI n).toInt64 = nJ n := Int64.toInt_inj.mp (by rw [Int32.toInt_toInt64, nI_toInt (by omega), nJ_toInt (by omega)])
theorem q_M_chance {x y z : Int32} (hB : hs_B I R N Q) : hn_F 5 hm_M_chance [.ref 188, .int x, .int y, .int z] (I, J, R) (fun r D' => hs_sm I J R D' ∧ r = some (.int (v_chance N Q x y z))) := by
  have hR9 := hB.1
  have hM9 := hs_M_of hR9
  have n8' : N.1 ≤ 8 := hB.2.1.1.2.1
  have n4' : N.2.1 ≤ 4 := hB.2.1.1.2.2.2.1
  have hw9 := hB.2.2.2.2.1
  have t6 : (6 : Int32).toInt = 6 := rfl
  have t10 : (10 : Int32).toInt = 10 := rfl
  refine hn_F_of _ hk_M_chance rfl (Nat.le_of_ble_eq_true rfl) ?_
  by_cases hx : sp_in x N.2.1
  · obtain ⟨p, hp, rfl⟩ := sp_in_nat hx
    rw [v_chance, sp_at_in hp (by omega)]
    by_cases hl : qP Q p = -1
    · rw [if_pos hl]
      refine b_aload_n rfl rfl ?_
      refine b_iconst rfl ?_
      refine b_putI rfl (by first | rfl | assumption) rfl rfl ⟨rfl, rfl⟩ ?_
      have hB1 := hs_B_0 (v := 0) hB
      have hs0 : hs_sm I J R (hn_u I 188 0 0, J, R) := hs_sm_0
      obtain ⟨I0, h0⟩ : ∃ z, z = hn_u I 188 0 0 := ⟨_, rfl⟩
      rw [← h0] at hB1 hs0 ⊢
      have e0 : ∀ b, b ≠ 188 → I0 b = I b := fun b hb => by rw [h0, hn_u_ne _ _ _ hb]
      have e188 : ∀ j, j ≠ 0 → I0 188 j = I 188 j := fun j hj => by rw [h0, hn_u_eq, va_up, if_neg hj]
      have hB2 := hB1
      obtain ⟨hR, hN, hQ, hfm, hw, hAw⟩ := hB1
      have hM := hs_M_of hR
      have hN0 := hN
      have hQ0 := hQ
      have hw0 := hw
      obtain ⟨⟨hn, n8, hnp, n4, hkn⟩, hL⟩ := hN
      obtain ⟨⟨_, hVs, hVw, hVp, hVh⟩, hVt⟩ := hQ
      simp only [Nat.zero_add] at hVs hVw hVp hVh
      obtain ⟨m1, m4, m5, m6, m9, m10, m11, m12, m14, m15, m16, m17, m20, m21, m22, m23, m25, m27, m28, m29, m30, m31, m32⟩ := id hM
      refine b_aload_n rfl rfl ?_
      refine b_iload_n rfl rfl ?_
      refine b_callV rfl rfl hk_M_isPerson rfl rfl rfl (by first | rfl | assumption) rfl (Nat.le_of_ble_eq_true rfl) (q_M_isPerson hM hnp n4) (Nat.le_of_ble_eq_true rfl) (fun r_7 D_7 q_7 => ?_)
      obtain ⟨rfl, hq⟩ := q_7
      rw [if_pos hx] at hq
      subst hq
      refine b_if_eq rfl (fun c_10 => ?_) (fun c_10 => ?_)
      · exact absurd c_10 (by decide)
      · refine b_aload_n rfl rfl ?_
        refine b_iconst rfl ?_
        refine b_iload_n rfl rfl ?_
        refine b_callV rfl rfl hk_M_doesLie rfl rfl rfl (by first | rfl | assumption) rfl (Nat.le_of_ble_eq_true rfl) (q_M_doesLie hM hQ0.1 n8 hw0.1 (show p < 4 by omega) rfl) (Nat.le_of_ble_eq_true rfl) (fun r_16 D_16 q_16 => ?_)
        obtain ⟨rfl, hq⟩ := q_16
        rw [if_pos hl] at hq
        subst hq
        refine b_if_eq rfl (fun c_19 => ?_) (fun c_19 => ?_)
        · refine b_iconst rfl ?_
          exact b_ireturn rfl trivial (⟨hs0, rfl⟩)
        · exact absurd rfl c_19
    · rw [if_neg hl]
      by_cases hok : ch_ok y z
      · rw [if_pos hok]
        obtain ⟨hy, hz9⟩ := id hok
        have qy : (1 : Int32).toInt ≤ y.toInt ∧ y.toInt ≤ (6 : Int32).toInt := by rw [hi_t1, t6]; exact hy
        have qz : (0 : Int32).toInt ≤ z.toInt ∧ z.toInt ≤ (10 : Int32).toInt := by rw [hi_t0, t10]; exact hz9
        obtain ⟨h, hh, hym⟩ : ∃ m, m ≤ 6 ∧ y = nI m := ⟨y.toInt.toNat, by omega, hi_nI (by omega)⟩
        have hyh : y.toInt.toNat = h := by rw [hym, nI_toInt (by omega)]; omega
        obtain ⟨o, ho, hzm⟩ : ∃ m, m ≤ 10 ∧ z = nI m := ⟨z.toInt.toNat, by omega, hi_nI (by omega)⟩
        have hzh : z.toInt.toNat = o := by rw [hzm, nI_toInt (by omega)]; omega
        rw [hyh, hzh]
        subst hym; subst hzm
        have h64 := ch_2h hh
        obtain ⟨P, hPd⟩ : ∃ P : Option Value → hnD → Prop, P = (fun r D' => hs_sm I J R D' ∧ r = some (.int (nI (ch_s N Q p o h (2 ^ h) * 10 ^ (6 - h))))) := ⟨_, rfl⟩
        rw [← hPd]
        have h10 : 10 ^ h ≤ 1000000 := (Nat.pow_le_pow_right (by omega) hh : 10 ^ h ≤ 10 ^ 6)
        have fin : (nJ (ch_s N Q p o h (2 ^ h)) * 1000000 / nJ (10 ^ h)).toInt32 = nI (ch_s N Q p o h (2 ^ h) * 10 ^ (6 - h)) := by
          have hle := ch_s_le (N := N) (Q := Q) (p := p) (h := h) ho (2 ^ h)
          have hle2 : 2 ^ h * 10 ^ h ≤ 64 * 1000000 := Nat.mul_le_mul h64 h10
          have hpos : 0 < 10 ^ h := Nat.pow_pos (by omega)
          have e6 : 10 ^ (6 - h) * 10 ^ h = 1000000 := by rw [← Nat.pow_add, show 6 - h + h = 6 by omega]
          generalize ch_s N Q p o h (2 ^ h) = s at hle ⊢
          have em : (nJ s * 1000000) = nJ (s * 1000000) := by rw [nJ_ml]; rfl
          rw [em]
          have hs6 : s * 10 ^ (6 - h) ≤ 64 * 1000000 := by
            have h1 : 10 ^ (6 - h) ≤ 1000000 := (Nat.pow_le_pow_right (by omega) (by omega) : 10 ^ (6 - h) ≤ 10 ^ 6)
            have h2 : s * 10 ^ (6 - h) ≤ (2 ^ h * 10 ^ h) * 10 ^ (6 - h) := Nat.mul_le_mul_right _ hle
            rw [Nat.mul_assoc, Nat.mul_comm (10 ^ h), e6] at h2
            exact Nat.le_trans h2 (Nat.mul_le_mul_right _ h64)
          refine hl_int ?_ (by omega)
          rw [hl_div (nJ_toInt (n := s * 1000000) (by omega)) (nJ_toInt (n := 10 ^ h) (by omega)) (by omega) (by omega) (by omega), ← e6, ← Nat.mul_assoc]
          generalize s * 10 ^ (6 - h) = u
          rw [← Int.natCast_ediv, Nat.mul_div_cancel u hpos]
        have lp : ∀ I', hs_sm I J R (I', J, R) → hn_B 5 hm_M_chance P 76 [.ref 188, .int (nI p), .int (nI h), .int (nI o), .long (nJ (10 ^ h)), .null, .long (nJ (ch_s N Q p o h 0)), .null, .int (nI 0), .null, .null, .null, .null] [] (I', J, R) := by
          refine sp_ind (2 ^ h) (fun k => ∀ I', hs_sm I J R (I', J, R) → hn_B 5 hm_M_chance P 76 [.ref 188, .int (nI p), .int (nI h), .int (nI o), .long (nJ (10 ^ h)), .null, .long (nJ (ch_s N Q p o h k)), .null, .int (nI k), .null, .null, .null, .null] [] (I', J, R)) ?_ ?_
          · intro I' g
            refine b_iload rfl rfl ?_
            refine b_iconst rfl ?_
            refine b_iload_n rfl rfl ?_
            refine b_ishl rfl ?_
            rw [ch_shl hh]
            refine b_icmp_ge rfl (fun c_81 => ?_) (fun c_81 => ?_)
            · refine b_lload rfl rfl ?_
              refine b_ldc2_w rfl ?_
              refine b_lmul rfl ?_
              refine b_lload rfl rfl ?_
              refine b_ldiv rfl (by intro e9; have e1 := nJ_toInt (n := 10 ^ h) (by omega); rw [e9] at e1; have := Nat.pow_pos (n := h) (show 0 < 10 by omega); rw [show (0 : Int64).toInt = 0 by decide] at e1; omega) ?_
              refine b_l2i rfl ?_
              rw [fin]
              exact b_ireturn rfl trivial ((by rw [hPd]; exact ⟨g, rfl⟩))
            · exact absurd (nI_le (Nat.le_refl _) (by omega)) c_81
          · intro k hk ih I' g
            have hqw := ch_q_w (p := p) (s := nI k) n4' hw9
            have e : nJ (ch_s N Q p o h (k + 1)) = nJ (ch_s N Q p o h k) + nJ (if qP (ch_q N Q p (nI k) h) p = -1 then ch_p o (nI k) h else 0) := by rw [← nJ_ad]; rfl
            rw [e] at ih
            have lq : ∀ I', hs_sm I J R (I', J, R) → hs_Qm I' 987 (ch_q N Q p (nI k) 0) → hn_B 5 hm_M_chance P 94 [.ref 188, .int (nI p), .int (nI h), .int (nI o), .long (nJ (10 ^ h)), .null, .long (nJ (ch_s N Q p o h k)), .null, .int (nI k), .long (nJ (ch_p o (nI k) 0)), .null, .int (nI 0), .null] [] (I', J, R) := by
              refine sp_ind h (fun i => ∀ I', hs_sm I J R (I', J, R) → hs_Qm I' 987 (ch_q N Q p (nI k) i) → hn_B 5 hm_M_chance P 94 [.ref 188, .int (nI p), .int (nI h), .int (nI o), .long (nJ (10 ^ h)), .null, .long (nJ (ch_s N Q p o h k)), .null, .int (nI k), .long (nJ (ch_p o (nI k) i)), .null, .int (nI i), .null] [] (I', J, R)) ?_ ?_
              · intro I' g2 q2
                by_cases hup : qP (ch_q N Q p (nI k) h) p = -1
                · rw [if_pos hup] at ih
                  refine b_iload rfl rfl ?_
                  refine b_iload_n rfl rfl ?_
                  refine b_icmp_ge rfl (fun c_97 => ?_) (fun c_97 => ?_)
                  · refine b_lload rfl rfl ?_
                    refine b_aload_n rfl rfl ?_
                    refine b_sipush rfl ?_
                    refine b_iload_n rfl rfl ?_
                    refine b_callV rfl rfl hk_M_doesLie rfl rfl rfl (by first | rfl | assumption) rfl (Nat.le_of_ble_eq_true rfl) (q_M_doesLie hM9 q2.1 n8' (hqw h).1 (show p < 4 by omega) rfl) (Nat.le_of_ble_eq_true rfl) (fun r_169 D_169 q_169 => ?_)
                    obtain ⟨rfl, hq⟩ := q_169
                    rw [if_pos hup] at hq
                    subst hq
                    refine b_if_eq rfl (fun c_172 => ?_) (fun c_172 => ?_)
                    · refine b_lload rfl rfl ?_
                      refine b_ladd rfl ?_
                      refine b_lstore rfl (Nat.le_of_ble_eq_true rfl) ?_
                      refine b_iinc rfl rfl (Nat.le_of_ble_eq_true rfl) ?_
                      refine b_goto rfl ?_
                      exact b_lp (ih I' g2) (le_e (le_e (le_e (le_e (le_e (le_n (le_e (le_e (le_q (by rw [nI_succ]) (le_n (le_n (le_n (le_n le_0))))))))))))) rfl rfl
                    · exact absurd rfl c_172
                  · exact absurd (nI_le (Nat.le_refl _) (by omega)) c_97
                · rw [if_neg hup] at ih
                  refine b_iload rfl rfl ?_
                  refine b_iload_n rfl rfl ?_
                  refine b_icmp_ge rfl (fun c_97 => ?_) (fun c_97 => ?_)
                  · refine b_lload rfl rfl ?_
                    refine b_aload_n rfl rfl ?_
                    refine b_sipush rfl ?_
                    refine b_iload_n rfl rfl ?_
                    refine b_callV rfl rfl hk_M_doesLie rfl rfl rfl (by first | rfl | assumption) rfl (Nat.le_of_ble_eq_true rfl) (q_M_doesLie hM9 q2.1 n8' (hqw h).1 (show p < 4 by omega) rfl) (Nat.le_of_ble_eq_true rfl) (fun r_169 D_169 q_169 => ?_)
                    obtain ⟨rfl, hq⟩ := q_169
                    rw [if_neg hup] at hq
                    subst hq
                    refine b_if_eq rfl (fun c_172 => ?_) (fun c_172 => ?_)
                    · exact absurd c_172 (by decide)
                    · refine b_lconst rfl ?_
                      refine b_goto rfl ?_
                      refine b_ladd rfl ?_
                      refine b_lstore rfl (Nat.le_of_ble_eq_true rfl) ?_
                      refine b_iinc rfl rfl (Nat.le_of_ble_eq_true rfl) ?_
                      refine b_goto rfl ?_
                      exact b_lp (ih I' g2) (le_e (le_e (le_e (le_e (le_e (le_n (le_e (le_e (le_q (by rw [nI_succ]) (le_n (le_n (le_n (le_n le_0))))))))))))) rfl rfl
                  · exact absurd (nI_le (Nat.le_refl _) (by omega)) c_97
              · intro i hi ih2 I' g2 q2
                have e1 : ch_q N Q p (nI k) (i + 1) = (sp_hr N 0 (if sp_bit (nI k) i then nI p else -1) (ch_q N Q p (nI k) i)).1 := rfl
                have e2 : nJ (ch_p o (nI k) (i + 1)) = nJ (ch_p o (nI k) i) * nJ (ch_f o (nI k) i) := by rw [← nJ_ml]; rfl
                rw [e1, e2] at ih2
                by_cases hb : sp_bit (nI k) i
                · rw [if_pos hb, ch_f, if_pos hb, ← nI_J (n := o) (by omega)] at ih2
                  refine b_iload rfl rfl ?_
                  refine b_iload_n rfl rfl ?_
                  refine b_icmp_ge rfl (fun c_97 => ?_) (fun c_97 => ?_)
                  · exact absurd c_97 (nI_ge hi (by omega))
                  · refine b_iload rfl rfl ?_
                    refine b_iload rfl rfl ?_
                    refine b_ishr rfl ?_
                    refine b_iconst rfl ?_
                    refine b_iand rfl ?_
                    refine b_iconst rfl ?_
                    refine b_icmp_ne rfl (fun c_108 => ?_) (fun c_108 => ?_)
                    · exact absurd ((hi_bit1 _).mpr hb) c_108
                    · refine b_iconst rfl ?_
                      refine b_goto rfl ?_
                      refine b_istore rfl (Nat.le_of_ble_eq_true rfl) ?_
                      refine b_lload rfl rfl ?_
                      refine b_iload rfl rfl ?_
                      refine b_if_eq rfl (fun c_122 => ?_) (fun c_122 => ?_)
                      · exact absurd c_122 (by decide)
                      · refine b_iload_n rfl rfl ?_
                        refine b_i2l rfl ?_
                        refine b_goto rfl ?_
                        refine b_lmul rfl ?_
                        refine b_lstore rfl (Nat.le_of_ble_eq_true rfl) ?_
                        refine b_aload_n rfl rfl ?_
                        refine b_sipush rfl ?_
                        refine b_iload rfl rfl ?_
                        refine b_if_eq rfl (fun c_144 => ?_) (fun c_144 => ?_)
                        · exact absurd c_144 (by decide)
                        · refine b_iload_n rfl rfl ?_
                          refine b_goto rfl ?_
                          refine b_callV rfl rfl hk_M_passes rfl rfl rfl (by first | rfl | assumption) rfl (Nat.le_of_ble_eq_true rfl) (qm_th (odd := nI p) hB g2 (by omega) q2 (hqw i) rfl) (Nat.le_of_ble_eq_true rfl) (fun r_152 D_152 q_152 => ?_)
                          obtain ⟨⟨I2, rfl, g3, q3, _⟩, rfl⟩ := q_152
                          refine b_pop rfl rfl ?_
                          refine b_iinc rfl rfl (Nat.le_of_ble_eq_true rfl) ?_
                          refine b_goto rfl ?_
                          exact b_lp (ih2 I2 g3 q3) (le_e (le_e (le_e (le_e (le_e (le_n (le_e (le_n (le_e (le_e (le_e (le_q (by rw [nI_succ]) (le_n le_0))))))))))))) rfl rfl
                · rw [if_neg hb, ch_f, if_neg hb, ← nI_J (n := 10 - o) (by omega), ← nI_10 ho] at ih2
                  refine b_iload rfl rfl ?_
                  refine b_iload_n rfl rfl ?_
                  refine b_icmp_ge rfl (fun c_97 => ?_) (fun c_97 => ?_)
                  · exact absurd c_97 (nI_ge hi (by omega))
                  · refine b_iload rfl rfl ?_
                    refine b_iload rfl rfl ?_
                    refine b_ishr rfl ?_
                    refine b_iconst rfl ?_
                    refine b_iand rfl ?_
                    refine b_iconst rfl ?_
                    refine b_icmp_ne rfl (fun c_108 => ?_) (fun c_108 => ?_)
                    · refine b_iconst rfl ?_
                      refine b_istore rfl (Nat.le_of_ble_eq_true rfl) ?_
                      refine b_lload rfl rfl ?_
                      refine b_iload rfl rfl ?_
                      refine b_if_eq rfl (fun c_122 => ?_) (fun c_122 => ?_)
                      · refine b_bipush rfl ?_
                        refine b_iload_n rfl rfl ?_
                        refine b_isub rfl ?_
                        refine b_i2l rfl ?_
                        refine b_lmul rfl ?_
                        refine b_lstore rfl (Nat.le_of_ble_eq_true rfl) ?_
                        refine b_aload_n rfl rfl ?_
                        refine b_sipush rfl ?_
                        refine b_iload rfl rfl ?_
                        refine b_if_eq rfl (fun c_144 => ?_) (fun c_144 => ?_)
                        · refine b_iconst rfl ?_
                          refine b_callV rfl rfl hk_M_passes rfl rfl rfl (by first | rfl | assumption) rfl (Nat.le_of_ble_eq_true rfl) (qm_th (odd := -1) hB g2 (by omega) q2 (hqw i) rfl) (Nat.le_of_ble_eq_true rfl) (fun r_152 D_152 q_152 => ?_)
                          obtain ⟨⟨I2, rfl, g3, q3, _⟩, rfl⟩ := q_152
                          refine b_pop rfl rfl ?_
                          refine b_iinc rfl rfl (Nat.le_of_ble_eq_true rfl) ?_
                          refine b_goto rfl ?_
                          exact b_lp (ih2 I2 g3 q3) (le_e (le_e (le_e (le_e (le_e (le_n (le_e (le_n (le_e (le_e (le_e (le_q (by rw [nI_succ]) (le_n le_0))))))))))))) rfl rfl
                        · exact absurd rfl c_144
                      · exact absurd rfl c_122
                    · exact absurd ((hi_bit1 _).mp c_108) hb
            refine b_iload rfl rfl ?_
            refine b_iconst rfl ?_
            refine b_iload_n rfl rfl ?_
            refine b_ishl rfl ?_
            rw [ch_shl hh]
            refine b_icmp_ge rfl (fun c_81 => ?_) (fun c_81 => ?_)
            · exact absurd c_81 (nI_ge hk (by omega))
            · refine b_aload_n rfl rfl ?_
              refine b_callV rfl rfl hk_M_triesNow rfl rfl rfl (by first | rfl | assumption) rfl (Nat.le_of_ble_eq_true rfl) (qm_tc hB g) (Nat.le_of_ble_eq_true rfl) (fun r_85 D_85 q_85 => ?_)
              obtain ⟨rfl, I2, rfl, g2, q2⟩ := q_85
              refine b_lconst rfl ?_
              refine b_lstore rfl (Nat.le_of_ble_eq_true rfl) ?_
              refine b_iconst rfl ?_
              refine b_istore rfl (Nat.le_of_ble_eq_true rfl) ?_
              exact b_lp (lq I2 g2 q2) (le_e (le_e (le_e (le_e (le_e (le_n (le_e (le_n (le_e (le_q (by rfl) (le_n (le_q (by rw [nI_0]) (le_n le_0))))))))))))) rfl rfl
        have ls : ∀ I', hs_sm I J R (I', J, R) → hn_B 5 hm_M_chance P 53 [.ref 188, .int (nI p), .int (nI h), .int (nI o), .long (nJ (10 ^ 0)), .null, .long 0, .null, .int (nI 0), .null, .null, .null, .null] [] (I', J, R) := by
          intro I' g
          refine sp_ind h (fun i => hn_B 5 hm_M_chance P 53 [.ref 188, .int (nI p), .int (nI h), .int (nI o), .long (nJ (10 ^ i)), .null, .long 0, .null, .int (nI i), .null, .null, .null, .null] [] (I', J, R)) ?_ ?_
          · refine b_iload rfl rfl ?_
            refine b_iload_n rfl rfl ?_
            refine b_icmp_ge rfl (fun c_56 => ?_) (fun c_56 => ?_)
            · refine b_iconst rfl ?_
              refine b_istore rfl (Nat.le_of_ble_eq_true rfl) ?_
              exact b_lp (lp I' g) (le_e (le_e (le_e (le_e (le_e (le_n (le_q (by rfl) (le_n (le_q (by rw [nI_0]) (le_n (le_n (le_n (le_n le_0))))))))))))) rfl rfl
            · exact absurd (nI_le (Nat.le_refl _) (by omega)) c_56
          · intro i hi ih
            have e2 : nJ (10 ^ (i + 1)) = nJ (10 ^ i) * 10 := by rw [Nat.pow_succ, nJ_ml]; rfl
            rw [e2] at ih
            refine b_iload rfl rfl ?_
            refine b_iload_n rfl rfl ?_
            refine b_icmp_ge rfl (fun c_56 => ?_) (fun c_56 => ?_)
            · exact absurd c_56 (nI_ge hi (by omega))
            · refine b_lload rfl rfl ?_
              refine b_ldc2_w rfl ?_
              refine b_lmul rfl ?_
              refine b_lstore rfl (Nat.le_of_ble_eq_true rfl) ?_
              refine b_iinc rfl rfl (Nat.le_of_ble_eq_true rfl) ?_
              refine b_goto rfl ?_
              exact b_lp ih (le_e (le_e (le_e (le_e (le_e (le_n (le_e (le_n (le_q (by rw [nI_succ]) (le_n (le_n (le_n (le_n le_0))))))))))))) rfl rfl
        refine b_aload_n rfl rfl ?_
        refine b_iconst rfl ?_
        refine b_putI rfl (by first | rfl | assumption) rfl rfl ⟨rfl, rfl⟩ ?_
        have hB1 := hs_B_0 (v := 0) hB
        have hs0 : hs_sm I J R (hn_u I 188 0 0, J, R) := hs_sm_0
        obtain ⟨I0, h0⟩ : ∃ z, z = hn_u I 188 0 0 := ⟨_, rfl⟩
        rw [← h0] at hB1 hs0 ⊢
        have e0 : ∀ b, b ≠ 188 → I0 b = I b := fun b hb => by rw [h0, hn_u_ne _ _ _ hb]
        have e188 : ∀ j, j ≠ 0 → I0 188 j = I 188 j := fun j hj => by rw [h0, hn_u_eq, va_up, if_neg hj]
        have hB2 := hB1
        obtain ⟨hR, hN, hQ, hfm, hw, hAw⟩ := hB1
        have hM := hs_M_of hR
        have hN0 := hN
        have hQ0 := hQ
        have hw0 := hw
        obtain ⟨⟨hn, n8, hnp, n4, hkn⟩, hL⟩ := hN
        obtain ⟨⟨_, hVs, hVw, hVp, hVh⟩, hVt⟩ := hQ
        simp only [Nat.zero_add] at hVs hVw hVp hVh
        obtain ⟨m1, m4, m5, m6, m9, m10, m11, m12, m14, m15, m16, m17, m20, m21, m22, m23, m25, m27, m28, m29, m30, m31, m32⟩ := id hM
        refine b_aload_n rfl rfl ?_
        refine b_iload_n rfl rfl ?_
        refine b_callV rfl rfl hk_M_isPerson rfl rfl rfl (by first | rfl | assumption) rfl (Nat.le_of_ble_eq_true rfl) (q_M_isPerson hM hnp n4) (Nat.le_of_ble_eq_true rfl) (fun r_7 D_7 q_7 => ?_)
        obtain ⟨rfl, hq⟩ := q_7
        rw [if_pos hx] at hq
        subst hq
        refine b_if_eq rfl (fun c_10 => ?_) (fun c_10 => ?_)
        · exact absurd c_10 (by decide)
        · refine b_aload_n rfl rfl ?_
          refine b_iconst rfl ?_
          refine b_iload_n rfl rfl ?_
          refine b_callV rfl rfl hk_M_doesLie rfl rfl rfl (by first | rfl | assumption) rfl (Nat.le_of_ble_eq_true rfl) (q_M_doesLie hM hQ0.1 n8 hw0.1 (show p < 4 by omega) rfl) (Nat.le_of_ble_eq_true rfl) (fun r_16 D_16 q_16 => ?_)
          obtain ⟨rfl, hq⟩ := q_16
          rw [if_neg hl] at hq
          subst hq
          refine b_if_eq rfl (fun c_19 => ?_) (fun c_19 => ?_)
          · exact absurd c_19 (by decide)
          · refine b_iload_n rfl rfl ?_
            refine b_iconst rfl ?_
            refine b_bipush rfl ?_
            refine b_callS rfl rfl hk_M_within rfl rfl rfl (Nat.le_of_ble_eq_true rfl) (q_M_within) (Nat.le_of_ble_eq_true rfl) (fun r_26 D_26 q_26 => ?_)
            obtain ⟨rfl, hq⟩ := q_26
            rw [if_pos qy] at hq
            subst hq
            refine b_if_eq rfl (fun c_29 => ?_) (fun c_29 => ?_)
            · exact absurd c_29 (by decide)
            · refine b_iload_n rfl rfl ?_
              refine b_iconst rfl ?_
              refine b_bipush rfl ?_
              refine b_callS rfl rfl hk_M_within rfl rfl rfl (Nat.le_of_ble_eq_true rfl) (q_M_within) (Nat.le_of_ble_eq_true rfl) (fun r_36 D_36 q_36 => ?_)
              obtain ⟨rfl, hq⟩ := q_36
              rw [if_pos qz] at hq
              subst hq
              refine b_if_ne rfl (fun c_39 => ?_) (fun c_39 => ?_)
              · refine b_lconst rfl ?_
                refine b_lstore rfl (Nat.le_of_ble_eq_true rfl) ?_
                refine b_lconst rfl ?_
                refine b_lstore rfl (Nat.le_of_ble_eq_true rfl) ?_
                refine b_iconst rfl ?_
                refine b_istore rfl (Nat.le_of_ble_eq_true rfl) ?_
                exact b_lp (ls I0 hs0) (le_e (le_e (le_e (le_e (le_q (by rfl) (le_n (le_e (le_n (le_q (by rw [nI_0]) (le_n (le_n (le_n (le_n le_0))))))))))))) rfl rfl
              · exact absurd c_39 (by decide)
      · rw [if_neg hok]
        by_cases qy : (1 : Int32).toInt ≤ y.toInt ∧ y.toInt ≤ (6 : Int32).toInt
        · have qz : ¬ ((0 : Int32).toInt ≤ z.toInt ∧ z.toInt ≤ (10 : Int32).toInt) := fun w => hok ⟨by rw [hi_t1, t6] at qy; exact qy, by rw [hi_t0, t10] at w; exact w⟩
          refine b_aload_n rfl rfl ?_
          refine b_iconst rfl ?_
          refine b_putI rfl (by first | rfl | assumption) rfl rfl ⟨rfl, rfl⟩ ?_
          have hB1 := hs_B_0 (v := 0) hB
          have hs0 : hs_sm I J R (hn_u I 188 0 0, J, R) := hs_sm_0
          obtain ⟨I0, h0⟩ : ∃ z, z = hn_u I 188 0 0 := ⟨_, rfl⟩
          rw [← h0] at hB1 hs0 ⊢
          have e0 : ∀ b, b ≠ 188 → I0 b = I b := fun b hb => by rw [h0, hn_u_ne _ _ _ hb]
          have e188 : ∀ j, j ≠ 0 → I0 188 j = I 188 j := fun j hj => by rw [h0, hn_u_eq, va_up, if_neg hj]
          have hB2 := hB1
          obtain ⟨hR, hN, hQ, hfm, hw, hAw⟩ := hB1
          have hM := hs_M_of hR
          have hN0 := hN
          have hQ0 := hQ
          have hw0 := hw
          obtain ⟨⟨hn, n8, hnp, n4, hkn⟩, hL⟩ := hN
          obtain ⟨⟨_, hVs, hVw, hVp, hVh⟩, hVt⟩ := hQ
          simp only [Nat.zero_add] at hVs hVw hVp hVh
          obtain ⟨m1, m4, m5, m6, m9, m10, m11, m12, m14, m15, m16, m17, m20, m21, m22, m23, m25, m27, m28, m29, m30, m31, m32⟩ := id hM
          refine b_aload_n rfl rfl ?_
          refine b_iload_n rfl rfl ?_
          refine b_callV rfl rfl hk_M_isPerson rfl rfl rfl (by first | rfl | assumption) rfl (Nat.le_of_ble_eq_true rfl) (q_M_isPerson hM hnp n4) (Nat.le_of_ble_eq_true rfl) (fun r_7 D_7 q_7 => ?_)
          obtain ⟨rfl, hq⟩ := q_7
          rw [if_pos hx] at hq
          subst hq
          refine b_if_eq rfl (fun c_10 => ?_) (fun c_10 => ?_)
          · exact absurd c_10 (by decide)
          · refine b_aload_n rfl rfl ?_
            refine b_iconst rfl ?_
            refine b_iload_n rfl rfl ?_
            refine b_callV rfl rfl hk_M_doesLie rfl rfl rfl (by first | rfl | assumption) rfl (Nat.le_of_ble_eq_true rfl) (q_M_doesLie hM hQ0.1 n8 hw0.1 (show p < 4 by omega) rfl) (Nat.le_of_ble_eq_true rfl) (fun r_16 D_16 q_16 => ?_)
            obtain ⟨rfl, hq⟩ := q_16
            rw [if_neg hl] at hq
            subst hq
            refine b_if_eq rfl (fun c_19 => ?_) (fun c_19 => ?_)
            · exact absurd c_19 (by decide)
            · refine b_iload_n rfl rfl ?_
              refine b_iconst rfl ?_
              refine b_bipush rfl ?_
              refine b_callS rfl rfl hk_M_within rfl rfl rfl (Nat.le_of_ble_eq_true rfl) (q_M_within) (Nat.le_of_ble_eq_true rfl) (fun r_26 D_26 q_26 => ?_)
              obtain ⟨rfl, hq⟩ := q_26
              rw [if_pos qy] at hq
              subst hq
              refine b_if_eq rfl (fun c_29 => ?_) (fun c_29 => ?_)
              · exact absurd c_29 (by decide)
              · refine b_iload_n rfl rfl ?_
                refine b_iconst rfl ?_
                refine b_bipush rfl ?_
                refine b_callS rfl rfl hk_M_within rfl rfl rfl (Nat.le_of_ble_eq_true rfl) (q_M_within) (Nat.le_of_ble_eq_true rfl) (fun r_36 D_36 q_36 => ?_)
                obtain ⟨rfl, hq⟩ := q_36
                rw [if_neg qz] at hq
                subst hq
                refine b_if_ne rfl (fun c_39 => ?_) (fun c_39 => ?_)
                · exact absurd rfl c_39
                · refine b_iconst rfl ?_
                  exact b_ireturn rfl trivial (⟨hs0, rfl⟩)
        · refine b_aload_n rfl rfl ?_
          refine b_iconst rfl ?_
          refine b_putI rfl (by first | rfl | assumption) rfl rfl ⟨rfl, rfl⟩ ?_
          have hB1 := hs_B_0 (v := 0) hB
          have hs0 : hs_sm I J R (hn_u I 188 0 0, J, R) := hs_sm_0
          obtain ⟨I0, h0⟩ : ∃ z, z = hn_u I 188 0 0 := ⟨_, rfl⟩
          rw [← h0] at hB1 hs0 ⊢
          have e0 : ∀ b, b ≠ 188 → I0 b = I b := fun b hb => by rw [h0, hn_u_ne _ _ _ hb]
          have e188 : ∀ j, j ≠ 0 → I0 188 j = I 188 j := fun j hj => by rw [h0, hn_u_eq, va_up, if_neg hj]
          have hB2 := hB1
          obtain ⟨hR, hN, hQ, hfm, hw, hAw⟩ := hB1
          have hM := hs_M_of hR
          have hN0 := hN
          have hQ0 := hQ
          have hw0 := hw
          obtain ⟨⟨hn, n8, hnp, n4, hkn⟩, hL⟩ := hN
          obtain ⟨⟨_, hVs, hVw, hVp, hVh⟩, hVt⟩ := hQ
          simp only [Nat.zero_add] at hVs hVw hVp hVh
          obtain ⟨m1, m4, m5, m6, m9, m10, m11, m12, m14, m15, m16, m17, m20, m21, m22, m23, m25, m27, m28, m29, m30, m31, m32⟩ := id hM
          refine b_aload_n rfl rfl ?_
          refine b_iload_n rfl rfl ?_
          refine b_callV rfl rfl hk_M_isPerson rfl rfl rfl (by first | rfl | assumption) rfl (Nat.le_of_ble_eq_true rfl) (q_M_isPerson hM hnp n4) (Nat.le_of_ble_eq_true rfl) (fun r_7 D_7 q_7 => ?_)
          obtain ⟨rfl, hq⟩ := q_7
          rw [if_pos hx] at hq
          subst hq
          refine b_if_eq rfl (fun c_10 => ?_) (fun c_10 => ?_)
          · exact absurd c_10 (by decide)
          · refine b_aload_n rfl rfl ?_
            refine b_iconst rfl ?_
            refine b_iload_n rfl rfl ?_
            refine b_callV rfl rfl hk_M_doesLie rfl rfl rfl (by first | rfl | assumption) rfl (Nat.le_of_ble_eq_true rfl) (q_M_doesLie hM hQ0.1 n8 hw0.1 (show p < 4 by omega) rfl) (Nat.le_of_ble_eq_true rfl) (fun r_16 D_16 q_16 => ?_)
            obtain ⟨rfl, hq⟩ := q_16
            rw [if_neg hl] at hq
            subst hq
            refine b_if_eq rfl (fun c_19 => ?_) (fun c_19 => ?_)
            · exact absurd c_19 (by decide)
            · refine b_iload_n rfl rfl ?_
              refine b_iconst rfl ?_
              refine b_bipush rfl ?_
              refine b_callS rfl rfl hk_M_within rfl rfl rfl (Nat.le_of_ble_eq_true rfl) (q_M_within) (Nat.le_of_ble_eq_true rfl) (fun r_26 D_26 q_26 => ?_)
              obtain ⟨rfl, hq⟩ := q_26
              rw [if_neg qy] at hq
              subst hq
              refine b_if_eq rfl (fun c_29 => ?_) (fun c_29 => ?_)
              · refine b_iconst rfl ?_
                exact b_ireturn rfl trivial (⟨hs0, rfl⟩)
              · exact absurd rfl c_29
  · rw [v_chance, sp_at_out hx]
    refine b_aload_n rfl rfl ?_
    refine b_iconst rfl ?_
    refine b_putI rfl (by first | rfl | assumption) rfl rfl ⟨rfl, rfl⟩ ?_
    have hB1 := hs_B_0 (v := 0) hB
    have hs0 : hs_sm I J R (hn_u I 188 0 0, J, R) := hs_sm_0
    obtain ⟨I0, h0⟩ : ∃ z, z = hn_u I 188 0 0 := ⟨_, rfl⟩
    rw [← h0] at hB1 hs0 ⊢
    have e0 : ∀ b, b ≠ 188 → I0 b = I b := fun b hb => by rw [h0, hn_u_ne _ _ _ hb]
    have e188 : ∀ j, j ≠ 0 → I0 188 j = I 188 j := fun j hj => by rw [h0, hn_u_eq, va_up, if_neg hj]
    have hB2 := hB1
    obtain ⟨hR, hN, hQ, hfm, hw, hAw⟩ := hB1
    have hM := hs_M_of hR
    have hN0 := hN
    have hQ0 := hQ
    have hw0 := hw
    obtain ⟨⟨hn, n8, hnp, n4, hkn⟩, hL⟩ := hN
    obtain ⟨⟨_, hVs, hVw, hVp, hVh⟩, hVt⟩ := hQ
    simp only [Nat.zero_add] at hVs hVw hVp hVh
    obtain ⟨m1, m4, m5, m6, m9, m10, m11, m12, m14, m15, m16, m17, m20, m21, m22, m23, m25, m27, m28, m29, m30, m31, m32⟩ := id hM
    refine b_aload_n rfl rfl ?_
    refine b_iload_n rfl rfl ?_
    refine b_callV rfl rfl hk_M_isPerson rfl rfl rfl (by first | rfl | assumption) rfl (Nat.le_of_ble_eq_true rfl) (q_M_isPerson hM hnp n4) (Nat.le_of_ble_eq_true rfl) (fun r_7 D_7 q_7 => ?_)
    obtain ⟨rfl, hq⟩ := q_7
    rw [if_neg hx] at hq
    subst hq
    refine b_if_eq rfl (fun c_10 => ?_) (fun c_10 => ?_)
    · refine b_iconst rfl ?_
      exact b_ireturn rfl trivial (⟨hs0, rfl⟩)
    · exact absurd rfl c_10
end HNchance
