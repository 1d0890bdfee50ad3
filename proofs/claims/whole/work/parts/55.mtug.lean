section HNmtug
variable {I I' : Nat → Nat → Int32} {J J' : Nat → Nat → Int64} {R : Nat → Nat → Option Nat} {t : Nat} {N : sp_N} {Q Q' S : sp_Q} {U : sp_U} {V : sp_V}
theorem tg_m_val {s : Nat → Int32} {n r k : Nat} {f : Nat → Option Nat} (o : Nat) : tg_m s n r f k o = f o ∨ (f o = none ∧ tg_m s n r f k o = some r) := by
  unfold tg_m
  split
  · by_cases h : tg_s s n r f o
    · exact Or.inr ⟨h.2.1, tg_1_pos h⟩
    · exact Or.inl (tg_1_neg h)
  · exact Or.inl rfl
theorem hs_Tg_set {a b : Nat} {v w : Int32} {s : Nat → Int32} {n r k : Nat} {f : Nat → Option Nat} (hab : a ≠ b) (hT : hs_Tg I a b (tg_m s n r f k)) (hv : v = nI (oc (tg_1 s n r f k))) (hw : w = sp_enc (tg_1 s n r f k)) : hs_Tg (hn_u (hn_u I a k v) b k w) a b (tg_m s n r f (k + 1)) := by
  intro j hj
  rw [tg_m_up, hn_u_ne _ _ _ hab, hn_u_eq, hn_u_eq, hn_u_ne _ _ _ (fun z => hab z.symm)]
  unfold va_up
  by_cases e : j = k
  · rw [if_pos e, if_pos e, if_pos e]; exact ⟨hv, hw⟩
  · rw [if_neg e, if_neg e, if_neg e]; exact hT j hj
/-- what the reference's inner loop finds -/
abbrev tw (s : Nat → Int32) (f : Nat → Option Nat) (k j : Nat) : Prop := ∃ o, o < j ∧ sp_bit (s k) o ∧ oc (f o) = 0
abbrev tl (s : Nat → Int32) (f : Nat → Option Nat) (k j : Nat) : Prop := ∀ o, o < j → sp_bit (s k) o → oc (f o) = 1
theorem tw_s {s : Nat → Int32} {f : Nat → Option Nat} {k j : Nat} : tw s f k (j + 1) ↔ tw s f k j ∨ (sp_bit (s k) j ∧ oc (f j) = 0) := by
  constructor
  · rintro ⟨o, ho, h⟩
    by_cases e : o = j
    · subst e; exact Or.inr h
    · exact Or.inl ⟨o, by omega, h⟩
  · rintro (⟨o, ho, h⟩ | h)
    · exact ⟨o, by omega, h⟩
    · exact ⟨j, by omega, h⟩
theorem tl_s {s : Nat → Int32} {f : Nat → Option Nat} {k j : Nat} : tl s f k (j + 1) ↔ tl s f k j ∧ (sp_bit (s k) j → oc (f j) = 1) := by
  constructor
  · intro h
    exact ⟨fun o ho hb => h o (by omega) hb, h j (by omega)⟩
  · rintro ⟨h1, h2⟩ o ho hb
    by_cases e : o = j
    · subst e; exact h2 hb
    · exact h1 o (by omega) hb
/-- a flag of a claim -/
abbrev fg (p : Prop) (a : Int32) : Prop := (p ∧ a = 1) ∨ (¬ p ∧ a = 0)
theorem enc_neg (x : Option Nat) (h : ∀ y, x = some y → y < 100) : sp_enc x < 0 ↔ x = none := by
  cases x with
  | none => exact ⟨fun _ => rfl, fun _ => by decide⟩
  | some y =>
    have := h y rfl
    constructor
    · intro z
      have := (hi_lt (nI_toInt (n := y) (by omega)) hi_t0).mp z
      omega
    · intro z; cases z
theorem q_M_tugsNow (hB : hs_B I R N Q) : hn_F 2 hm_M_tugsNow [.ref 188] (I, J, R) (fun r D' => r = none ∧ ∃ I2, D' = (I2, J, R) ∧ (∀ b, b ≠ 208 → b ≠ 209 → I2 b = I b) ∧ hs_Tg I2 208 209 (tg (qS Q) N.1 9)) := by
  have hM9 := hs_M_of hB.1
  have n8 : N.1 ≤ 8 := hB.2.1.1.2.1
  have hw9 := hB.2.2.2.2.1
  obtain ⟨m1, m4, m5, m6, m9, m10, m11, m12, m14, m15, m16, m17, m20, m21, m22, m23, m25, m27, m28, m29, m30, m31, m32⟩ := id hM9
  refine hn_F_of _ hk_M_tugsNow rfl (Nat.le_of_ble_eq_true rfl) ?_
  obtain ⟨P, hPd⟩ : ∃ P : Option Value → hnD → Prop, P = (fun r D' => r = none ∧ ∃ I2, D' = (I2, J, R) ∧ (∀ b, b ≠ 208 → b ≠ 209 → I2 b = I b) ∧ hs_Tg I2 208 209 (tg (qS Q) N.1 9)) := ⟨_, rfl⟩
  rw [← hPd]
  have hBf : ∀ I', (∀ b, b ≠ 208 → b ≠ 209 → I' b = I b) → hs_B I' R N Q := fun I' hf => hs_B_y hB (fun b hb => hf b (by omega) (by omega))
  have hbn : ∀ k o, N.1 ≤ o → o < 8 → ¬ sp_bit (qS Q k) o := fun k o h1 h2 => sp_bit_lt (sp_qs_lt hw9 n8 k) (by omega) (by omega)
  have lr : ∀ I', (∀ b, b ≠ 208 → b ≠ 209 → I' b = I b) → hs_Tg I' 208 209 (tg (qS Q) N.1 0) → hn_B 2 hm_M_tugsNow P 30 [.ref 188, .int (nI 0), .null, .null, .null, .null, .null, .null] [] (I', J, R) := by
    refine sp_ind 17 (fun r => ∀ I', (∀ b, b ≠ 208 → b ≠ 209 → I' b = I b) → hs_Tg I' 208 209 (tg (qS Q) N.1 r) → hn_B 2 hm_M_tugsNow P 30 [.ref 188, .int (nI r), .null, .null, .null, .null, .null, .null] [] (I', J, R)) ?_ ?_
    · intro I' hf hT
      rw [show (17 : Nat) = 9 + 8 from rfl, tg_9 n8 8] at hT
      refine b_iload_n rfl rfl ?_
      refine b_bipush rfl ?_
      refine b_icmp_gt rfl (fun c_33 => ?_) (fun c_33 => ?_)
      · exact b_return_ rfl trivial ((by rw [hPd]; exact ⟨rfl, I', rfl, hf, hT⟩))
      · exact absurd (show (16 : Int32) < nI 17 by decide) c_33
    · intro r hr ih I' hf hT
      have c33 : ¬ (16 : Int32) < nI r := fun z => by
        have := (hi_lt (show (16 : Int32).toInt = 16 from rfl) (nI_toInt (n := r) (by omega))).mp z
        omega
      have hwx : ∀ o x, tg (qS Q) N.1 r o = some x → x < r := fun o x h => (tg_when r h).1
      have lk : ∀ I', (∀ b, b ≠ 208 → b ≠ 209 → I' b = I b) → hs_Tg I' 208 209 (tg_m (qS Q) N.1 r (tg (qS Q) N.1 r) 0) → hn_B 2 hm_M_tugsNow P 38 [.ref 188, .int (nI r), .int (nI 0), .null, .null, .null, .null, .null] [] (I', J, R) := by
        refine sp_ind N.1 (fun k => ∀ I', (∀ b, b ≠ 208 → b ≠ 209 → I' b = I b) → hs_Tg I' 208 209 (tg_m (qS Q) N.1 r (tg (qS Q) N.1 r) k) → hn_B 2 hm_M_tugsNow P 38 [.ref 188, .int (nI r), .int (nI k), .null, .null, .null, .null, .null] [] (I', J, R)) ?_ ?_
        · intro I' hf hT
          rw [tg_m_n, ← tg_succ] at hT
          have hB' := hBf I' hf
          refine b_iload_n rfl rfl ?_
          refine b_aload_n rfl rfl ?_
          refine b_callV rfl rfl hk_M_knots rfl rfl rfl (by first | rfl | assumption) rfl (Nat.le_of_ble_eq_true rfl) (q_M_knots hM9 hB'.2.1.1.1) (Nat.le_of_ble_eq_true rfl) (fun r_40 D_40 q_40 => ?_)
          obtain ⟨rfl, rfl⟩ := q_40
          refine b_icmp_ge rfl (fun c_43 => ?_) (fun c_43 => ?_)
          · refine b_iinc rfl rfl (Nat.le_of_ble_eq_true rfl) ?_
            refine b_goto rfl ?_
            exact b_lp (ih I' hf hT) (le_e (le_q (by rw [nI_succ]) (le_n (le_n (le_n (le_n (le_n (le_n le_0)))))))) rfl rfl
          · exact absurd (nI_le (Nat.le_refl _) (by omega)) c_43
        · intro k hk ih2 I' hf hT
          have hB' := hBf I' hf
          have hn' := hB'.2.1.1.1
          have e209 : I' 209 k = sp_enc (tg (qS Q) N.1 r k) := by have := (hT k (by omega)).2; rw [tg_m_k] at this; exact this
          by_cases hu : tg (qS Q) N.1 r k = none
          · rw [hu] at e209
            have lo : ∀ a b : Int32, fg (tw (qS Q) (tg (qS Q) N.1 r) k 0) a → fg (tl (qS Q) (tg (qS Q) N.1 r) k 0) b → hn_B 2 hm_M_tugsNow P 63 [.ref 188, .int (nI r), .int (nI k), .int a, .int b, .int (nI 0), .null, .null] [] (I', J, R) := by
              refine sp_ind N.1 (fun o => ∀ a b : Int32, fg (tw (qS Q) (tg (qS Q) N.1 r) k o) a → fg (tl (qS Q) (tg (qS Q) N.1 r) k o) b → hn_B 2 hm_M_tugsNow P 63 [.ref 188, .int (nI r), .int (nI k), .int a, .int b, .int (nI o), .null, .null] [] (I', J, R)) ?_ ?_
              · intro a b ha hb
                have fin : ∀ v w : Int32, v = nI (oc (tg_1 (qS Q) N.1 r (tg (qS Q) N.1 r) k)) → w = sp_enc (tg_1 (qS Q) N.1 r (tg (qS Q) N.1 r) k) → hn_B 2 hm_M_tugsNow P 38 [.ref 188, .int (nI r), .int (nI k + 1), .null, .null, .null, .null, .null] [] (hn_u (hn_u I' 208 k v) 209 k w, J, R) := fun v w hv hw => b_lp (ih2 _ (fun b h1 h2 => by rw [hn_u_ne _ _ _ h2, hn_u_ne _ _ _ h1]; exact hf b h1 h2) (hs_Tg_set (by omega) hT hv hw)) (le_e (le_e (le_q (by rw [nI_succ]) (le_n (le_n (le_n (le_n (le_n le_0)))))))) rfl rfl
                by_cases hr2 : r % 2 = 0
                · have hW : ¬ tw (qS Q) (tg (qS Q) N.1 r) k N.1 := fun ⟨o, ho, hb9, h0⟩ => tg_A r hr2 hk hu (by omega) hb9 h0
                  have ha0 : a = 0 := (ha.resolve_left (fun z => hW z.1)).2
                  subst ha0
                  by_cases hL : tl (qS Q) (tg (qS Q) N.1 r) k N.1
                  · have hb1 : b = 1 := (hb.resolve_right (fun z => z.1 hL)).2
                    subst hb1
                    have hS : tg_s (qS Q) N.1 r (tg (qS Q) N.1 r) k := ⟨hk, hu, by unfold tg_c; rw [if_pos hr2]; exact fun o ho hb9 => hL o (Nat.lt_of_not_le (fun z => hbn k o z ho hb9)) hb9⟩
                    have e1 := tg_1_pos hS
                    refine b_iload rfl rfl ?_
                    refine b_aload_n rfl rfl ?_
                    refine b_callV rfl rfl hk_M_knots rfl rfl rfl (by first | rfl | assumption) rfl (Nat.le_of_ble_eq_true rfl) (q_M_knots hM9 hn') (Nat.le_of_ble_eq_true rfl) (fun r_66 D_66 q_66 => ?_)
                    obtain ⟨rfl, rfl⟩ := q_66
                    refine b_icmp_ge rfl (fun c_69 => ?_) (fun c_69 => ?_)
                    · refine b_aload_n rfl rfl ?_
                      refine b_getR rfl (by first | rfl | assumption) rfl (by assumption) ?_
                      refine b_iload_n rfl rfl ?_
                      refine b_iload_n rfl rfl ?_
                      refine b_if_eq rfl (fun c_196 => ?_) (fun c_196 => ?_)
                      · refine b_iload rfl rfl ?_
                        refine b_if_eq rfl (fun c_205 => ?_) (fun c_205 => ?_)
                        · exact absurd c_205 (by decide)
                        · refine b_iconst rfl ?_
                          refine b_goto rfl ?_
                          refine b_iastore rfl (by first | rfl | assumption) (by first | assumption | exact nI_toInt (by omega) | exact hi_l0 | exact hi_l1 | exact hi_l2 | exact hi_l3 | exact hi_l4 | exact hi_l5 | exact hi_l6) (by omega) ?_
                          refine b_aload_n rfl rfl ?_
                          refine b_getR rfl (by first | rfl | assumption) rfl (by assumption) ?_
                          refine b_iload_n rfl rfl ?_
                          refine b_iload_n rfl rfl ?_
                          refine b_if_ne rfl (fun c_220 => ?_) (fun c_220 => ?_)
                          · exact absurd rfl c_220
                          · refine b_iload rfl rfl ?_
                            refine b_if_eq rfl (fun c_225 => ?_) (fun c_225 => ?_)
                            · exact absurd c_225 (by decide)
                            · refine b_iload_n rfl rfl ?_
                              refine b_goto rfl ?_
                              refine b_iastore rfl (by first | rfl | assumption) (by first | assumption | exact nI_toInt (by omega) | exact hi_l0 | exact hi_l1 | exact hi_l2 | exact hi_l3 | exact hi_l4 | exact hi_l5 | exact hi_l6) (by omega) ?_
                              refine b_iinc rfl rfl (Nat.le_of_ble_eq_true rfl) ?_
                              refine b_goto rfl ?_
                              exact b_lp (fin _ _ (by rw [e1]; show 0 = nI (r % 2); rw [hr2]; rfl) (by rw [e1]; rfl)) (le_e (le_e (le_e (le_n (le_n (le_n (le_n (le_n le_0)))))))) rfl rfl
                      · exact absurd rfl c_196
                    · exact absurd (nI_le (Nat.le_refl _) (by omega)) c_69
                  · have hb0 : b = 0 := (hb.resolve_left (fun z => hL z.1)).2
                    subst hb0
                    have hS : ¬ tg_s (qS Q) N.1 r (tg (qS Q) N.1 r) k := fun z => hL (by have := z.2.2; unfold tg_c at this; rw [if_pos hr2] at this; exact fun o ho hb9 => this o (by omega) hb9)
                    have e1 := tg_1_neg hS
                    rw [hu] at e1
                    refine b_iload rfl rfl ?_
                    refine b_aload_n rfl rfl ?_
                    refine b_callV rfl rfl hk_M_knots rfl rfl rfl (by first | rfl | assumption) rfl (Nat.le_of_ble_eq_true rfl) (q_M_knots hM9 hn') (Nat.le_of_ble_eq_true rfl) (fun r_66 D_66 q_66 => ?_)
                    obtain ⟨rfl, rfl⟩ := q_66
                    refine b_icmp_ge rfl (fun c_69 => ?_) (fun c_69 => ?_)
                    · refine b_aload_n rfl rfl ?_
                      refine b_getR rfl (by first | rfl | assumption) rfl (by assumption) ?_
                      refine b_iload_n rfl rfl ?_
                      refine b_iload_n rfl rfl ?_
                      refine b_if_eq rfl (fun c_196 => ?_) (fun c_196 => ?_)
                      · refine b_iload rfl rfl ?_
                        refine b_if_eq rfl (fun c_205 => ?_) (fun c_205 => ?_)
                        · refine b_iconst rfl ?_
                          refine b_iastore rfl (by first | rfl | assumption) (by first | assumption | exact nI_toInt (by omega) | exact hi_l0 | exact hi_l1 | exact hi_l2 | exact hi_l3 | exact hi_l4 | exact hi_l5 | exact hi_l6) (by omega) ?_
                          refine b_aload_n rfl rfl ?_
                          refine b_getR rfl (by first | rfl | assumption) rfl (by assumption) ?_
                          refine b_iload_n rfl rfl ?_
                          refine b_iload_n rfl rfl ?_
                          refine b_if_ne rfl (fun c_220 => ?_) (fun c_220 => ?_)
                          · exact absurd rfl c_220
                          · refine b_iload rfl rfl ?_
                            refine b_if_eq rfl (fun c_225 => ?_) (fun c_225 => ?_)
                            · refine b_iconst rfl ?_
                              refine b_iastore rfl (by first | rfl | assumption) (by first | assumption | exact nI_toInt (by omega) | exact hi_l0 | exact hi_l1 | exact hi_l2 | exact hi_l3 | exact hi_l4 | exact hi_l5 | exact hi_l6) (by omega) ?_
                              refine b_iinc rfl rfl (Nat.le_of_ble_eq_true rfl) ?_
                              refine b_goto rfl ?_
                              exact b_lp (fin _ _ (by rw [e1]; rfl) (by rw [e1]; rfl)) (le_e (le_e (le_e (le_n (le_n (le_n (le_n (le_n le_0)))))))) rfl rfl
                            · exact absurd rfl c_225
                        · exact absurd rfl c_205
                      · exact absurd rfl c_196
                    · exact absurd (nI_le (Nat.le_refl _) (by omega)) c_69
                · by_cases hW : tw (qS Q) (tg (qS Q) N.1 r) k N.1
                  · have ha1 : a = 1 := (ha.resolve_right (fun z => z.1 hW)).2
                    subst ha1
                    have hS : tg_s (qS Q) N.1 r (tg (qS Q) N.1 r) k := ⟨hk, hu, by unfold tg_c; rw [if_neg hr2]; obtain ⟨o, ho, h⟩ := hW; exact ⟨o, by omega, h⟩⟩
                    have e1 := tg_1_pos hS
                    refine b_iload rfl rfl ?_
                    refine b_aload_n rfl rfl ?_
                    refine b_callV rfl rfl hk_M_knots rfl rfl rfl (by first | rfl | assumption) rfl (Nat.le_of_ble_eq_true rfl) (q_M_knots hM9 hn') (Nat.le_of_ble_eq_true rfl) (fun r_66 D_66 q_66 => ?_)
                    obtain ⟨rfl, rfl⟩ := q_66
                    refine b_icmp_ge rfl (fun c_69 => ?_) (fun c_69 => ?_)
                    · refine b_aload_n rfl rfl ?_
                      refine b_getR rfl (by first | rfl | assumption) rfl (by assumption) ?_
                      refine b_iload_n rfl rfl ?_
                      refine b_iload_n rfl rfl ?_
                      refine b_if_eq rfl (fun c_196 => ?_) (fun c_196 => ?_)
                      · exact absurd c_196 (by decide)
                      · refine b_iconst rfl ?_
                        refine b_goto rfl ?_
                        refine b_iastore rfl (by first | rfl | assumption) (by first | assumption | exact nI_toInt (by omega) | exact hi_l0 | exact hi_l1 | exact hi_l2 | exact hi_l3 | exact hi_l4 | exact hi_l5 | exact hi_l6) (by omega) ?_
                        refine b_aload_n rfl rfl ?_
                        refine b_getR rfl (by first | rfl | assumption) rfl (by assumption) ?_
                        refine b_iload_n rfl rfl ?_
                        refine b_iload_n rfl rfl ?_
                        refine b_if_ne rfl (fun c_220 => ?_) (fun c_220 => ?_)
                        · refine b_iload_n rfl rfl ?_
                          refine b_goto rfl ?_
                          refine b_iastore rfl (by first | rfl | assumption) (by first | assumption | exact nI_toInt (by omega) | exact hi_l0 | exact hi_l1 | exact hi_l2 | exact hi_l3 | exact hi_l4 | exact hi_l5 | exact hi_l6) (by omega) ?_
                          refine b_iinc rfl rfl (Nat.le_of_ble_eq_true rfl) ?_
                          refine b_goto rfl ?_
                          exact b_lp (fin _ _ (by rw [e1]; show 1 = nI (r % 2); rw [show r % 2 = 1 by omega]; rfl) (by rw [e1]; rfl)) (le_e (le_e (le_e (le_n (le_n (le_n (le_n (le_n le_0)))))))) rfl rfl
                        · exact absurd c_220 (by decide)
                    · exact absurd (nI_le (Nat.le_refl _) (by omega)) c_69
                  · have ha0 : a = 0 := (ha.resolve_left (fun z => hW z.1)).2
                    subst ha0
                    have hL : ¬ tl (qS Q) (tg (qS Q) N.1 r) k N.1 := fun z => tg_B r hr2 hk hu (fun o ho hb9 => z o (Nat.lt_of_not_le (fun y => hbn k o y ho hb9)) hb9)
                    have hb0 : b = 0 := (hb.resolve_left (fun z => hL z.1)).2
                    subst hb0
                    have hS : ¬ tg_s (qS Q) N.1 r (tg (qS Q) N.1 r) k := fun z => hW (by have := z.2.2; unfold tg_c at this; rw [if_neg hr2] at this; obtain ⟨o, ho, h⟩ := this; exact ⟨o, Nat.lt_of_not_le (fun y => hbn k o y ho h.1), h⟩)
                    have e1 := tg_1_neg hS
                    rw [hu] at e1
                    refine b_iload rfl rfl ?_
                    refine b_aload_n rfl rfl ?_
                    refine b_callV rfl rfl hk_M_knots rfl rfl rfl (by first | rfl | assumption) rfl (Nat.le_of_ble_eq_true rfl) (q_M_knots hM9 hn') (Nat.le_of_ble_eq_true rfl) (fun r_66 D_66 q_66 => ?_)
                    obtain ⟨rfl, rfl⟩ := q_66
                    refine b_icmp_ge rfl (fun c_69 => ?_) (fun c_69 => ?_)
                    · refine b_aload_n rfl rfl ?_
                      refine b_getR rfl (by first | rfl | assumption) rfl (by assumption) ?_
                      refine b_iload_n rfl rfl ?_
                      refine b_iload_n rfl rfl ?_
                      refine b_if_eq rfl (fun c_196 => ?_) (fun c_196 => ?_)
                      · refine b_iload rfl rfl ?_
                        refine b_if_eq rfl (fun c_205 => ?_) (fun c_205 => ?_)
                        · refine b_iconst rfl ?_
                          refine b_iastore rfl (by first | rfl | assumption) (by first | assumption | exact nI_toInt (by omega) | exact hi_l0 | exact hi_l1 | exact hi_l2 | exact hi_l3 | exact hi_l4 | exact hi_l5 | exact hi_l6) (by omega) ?_
                          refine b_aload_n rfl rfl ?_
                          refine b_getR rfl (by first | rfl | assumption) rfl (by assumption) ?_
                          refine b_iload_n rfl rfl ?_
                          refine b_iload_n rfl rfl ?_
                          refine b_if_ne rfl (fun c_220 => ?_) (fun c_220 => ?_)
                          · exact absurd rfl c_220
                          · refine b_iload rfl rfl ?_
                            refine b_if_eq rfl (fun c_225 => ?_) (fun c_225 => ?_)
                            · refine b_iconst rfl ?_
                              refine b_iastore rfl (by first | rfl | assumption) (by first | assumption | exact nI_toInt (by omega) | exact hi_l0 | exact hi_l1 | exact hi_l2 | exact hi_l3 | exact hi_l4 | exact hi_l5 | exact hi_l6) (by omega) ?_
                              refine b_iinc rfl rfl (Nat.le_of_ble_eq_true rfl) ?_
                              refine b_goto rfl ?_
                              exact b_lp (fin _ _ (by rw [e1]; rfl) (by rw [e1]; rfl)) (le_e (le_e (le_e (le_n (le_n (le_n (le_n (le_n le_0)))))))) rfl rfl
                            · exact absurd rfl c_225
                        · exact absurd rfl c_205
                      · exact absurd rfl c_196
                    · exact absurd (nI_le (Nat.le_refl _) (by omega)) c_69
              · intro o ho ih3 a b ha hb
                rw [tw_s, tl_s] at ih3
                obtain ⟨t8, t9⟩ := hT o (by omega)
                have hval := tg_m_val (s := qS Q) (n := N.1) (r := r) (k := k) (f := tg (qS Q) N.1 r) o
                have hwo := hwx o
                generalize tg_m (qS Q) N.1 r (tg (qS Q) N.1 r) k o = mo at t8 t9 hval
                generalize tg (qS Q) N.1 r o = go at ih3 hval hwo
                generalize tw (qS Q) (tg (qS Q) N.1 r) k o = W at ih3 ha
                generalize tl (qS Q) (tg (qS Q) N.1 r) k o = L at ih3 hb
                generalize hbo : sp_bit (qS Q k) o = B at ih3
                have hor := ho
                have hbe : (qS Q k >>> (nI o &&& 31)) &&& 1 = 1 ↔ B := by rw [← hbo]; exact hi_bit1 _
                have S91 : ∀ bb : Int32, fg B bb → hn_B 2 hm_M_tugsNow P 91 [.ref 188, .int (nI r), .int (nI k), .int a, .int b, .int (nI o), .null, .null] [.int bb] (I', J, R) := by
                  intro bb hbb
                  have S119 : ∀ tt : Int32, fg (¬ go = none) tt → hn_B 2 hm_M_tugsNow P 119 [.ref 188, .int (nI r), .int (nI k), .int a, .int b, .int (nI o), .int bb, .null] [.int tt] (I', J, R) := by
                    intro tt htt
                    have S150 : ∀ a2 : Int32, fg (W ∨ (B ∧ oc go = 0)) a2 → hn_B 2 hm_M_tugsNow P 150 [.ref 188, .int (nI r), .int (nI k), .int a, .int b, .int (nI o), .int bb, .int tt] [.int a2] (I', J, R) := by
                      intro a2 ha2
                      have S182 : ∀ b2 : Int32, fg (L ∧ (B → oc go = 1)) b2 → hn_B 2 hm_M_tugsNow P 182 [.ref 188, .int (nI r), .int (nI k), .int a2, .int b, .int (nI o), .int bb, .int tt] [.int b2] (I', J, R) := by
                        intro b2 hb2
                        refine b_istore rfl (Nat.le_of_ble_eq_true rfl) ?_
                        refine b_iinc rfl rfl (Nat.le_of_ble_eq_true rfl) ?_
                        refine b_goto rfl ?_
                        exact b_lp (ih3 a2 b2 ha2 hb2) (le_e (le_e (le_e (le_e (le_e (le_q (by rw [nI_succ]) (le_n (le_n le_0)))))))) rfl rfl
                      rcases hb with ⟨hL, rfl⟩ | ⟨hL, rfl⟩
                      · rcases hbb with ⟨hb1, rfl⟩ | ⟨hb1, rfl⟩
                        · rcases htt with ⟨ht1, rfl⟩ | ⟨ht1, rfl⟩
                          · have hmo : mo = go := hval.resolve_right (fun z => ht1 z.1)
                            rw [hmo] at t8
                            have hl3 := oc_lt go
                            by_cases h1 : oc go = 1
                            · refine b_istore_n rfl (Nat.le_of_ble_eq_true rfl) ?_
                              refine b_iload rfl rfl ?_
                              refine b_if_eq rfl (fun c_153 => ?_) (fun c_153 => ?_)
                              · exact absurd c_153 (by decide)
                              · refine b_iload rfl rfl ?_
                                refine b_if_eq rfl (fun c_158 => ?_) (fun c_158 => ?_)
                                · exact absurd c_158 (by decide)
                                · refine b_iload rfl rfl ?_
                                  refine b_if_eq rfl (fun c_163 => ?_) (fun c_163 => ?_)
                                  · exact absurd c_163 (by decide)
                                  · refine b_aload_n rfl rfl ?_
                                    refine b_getR rfl (by first | rfl | assumption) rfl (by assumption) ?_
                                    refine b_iload rfl rfl ?_
                                    refine b_iaload rfl (by first | rfl | assumption) (by first | assumption | exact nI_toInt (by omega) | exact hi_l0 | exact hi_l1 | exact hi_l2 | exact hi_l3 | exact hi_l4 | exact hi_l5 | exact hi_l6) (by omega) ?_
                                    rw [t8, h1]
                                    refine b_iconst rfl ?_
                                    refine b_icmp_ne rfl (fun c_174 => ?_) (fun c_174 => ?_)
                                    · exact absurd rfl c_174
                                    · refine b_iconst rfl ?_
                                      refine b_goto rfl ?_
                                      exact S182 1 (Or.inl ⟨⟨hL, fun _ => h1⟩, rfl⟩)
                            · refine b_istore_n rfl (Nat.le_of_ble_eq_true rfl) ?_
                              refine b_iload rfl rfl ?_
                              refine b_if_eq rfl (fun c_153 => ?_) (fun c_153 => ?_)
                              · exact absurd c_153 (by decide)
                              · refine b_iload rfl rfl ?_
                                refine b_if_eq rfl (fun c_158 => ?_) (fun c_158 => ?_)
                                · exact absurd c_158 (by decide)
                                · refine b_iload rfl rfl ?_
                                  refine b_if_eq rfl (fun c_163 => ?_) (fun c_163 => ?_)
                                  · exact absurd c_163 (by decide)
                                  · refine b_aload_n rfl rfl ?_
                                    refine b_getR rfl (by first | rfl | assumption) rfl (by assumption) ?_
                                    refine b_iload rfl rfl ?_
                                    refine b_iaload rfl (by first | rfl | assumption) (by first | assumption | exact nI_toInt (by omega) | exact hi_l0 | exact hi_l1 | exact hi_l2 | exact hi_l3 | exact hi_l4 | exact hi_l5 | exact hi_l6) (by omega) ?_
                                    rw [t8]
                                    refine b_iconst rfl ?_
                                    refine b_icmp_ne rfl (fun c_174 => ?_) (fun c_174 => ?_)
                                    · refine b_iconst rfl ?_
                                      exact S182 0 (Or.inr ⟨fun z => h1 (z.2 hb1), rfl⟩)
                                    · exact absurd ((hi_nIe (k := 1) (by omega) (by omega)).mp c_174) h1
                          · have hgo : go = none := Classical.byContradiction ht1
                            refine b_istore_n rfl (Nat.le_of_ble_eq_true rfl) ?_
                            refine b_iload rfl rfl ?_
                            refine b_if_eq rfl (fun c_153 => ?_) (fun c_153 => ?_)
                            · exact absurd c_153 (by decide)
                            · refine b_iload rfl rfl ?_
                              refine b_if_eq rfl (fun c_158 => ?_) (fun c_158 => ?_)
                              · exact absurd c_158 (by decide)
                              · refine b_iload rfl rfl ?_
                                refine b_if_eq rfl (fun c_163 => ?_) (fun c_163 => ?_)
                                · refine b_iconst rfl ?_
                                  exact S182 0 (Or.inr ⟨fun z => by have := z.2 hb1; rw [hgo] at this; exact absurd this (by decide), rfl⟩)
                                · exact absurd rfl c_163
                        · refine b_istore_n rfl (Nat.le_of_ble_eq_true rfl) ?_
                          refine b_iload rfl rfl ?_
                          refine b_if_eq rfl (fun c_153 => ?_) (fun c_153 => ?_)
                          · exact absurd c_153 (by decide)
                          · refine b_iload rfl rfl ?_
                            refine b_if_eq rfl (fun c_158 => ?_) (fun c_158 => ?_)
                            · refine b_iconst rfl ?_
                              refine b_goto rfl ?_
                              exact S182 1 (Or.inl ⟨⟨hL, fun z => absurd z hb1⟩, rfl⟩)
                            · exact absurd rfl c_158
                      · refine b_istore_n rfl (Nat.le_of_ble_eq_true rfl) ?_
                        refine b_iload rfl rfl ?_
                        refine b_if_eq rfl (fun c_153 => ?_) (fun c_153 => ?_)
                        · refine b_iconst rfl ?_
                          exact S182 0 (Or.inr ⟨fun z => hL z.1, rfl⟩)
                        · exact absurd rfl c_153
                    rcases ha with ⟨hW, rfl⟩ | ⟨hW, rfl⟩
                    · refine b_istore rfl (Nat.le_of_ble_eq_true rfl) ?_
                      refine b_iload_n rfl rfl ?_
                      refine b_if_ne rfl (fun c_122 => ?_) (fun c_122 => ?_)
                      · refine b_iconst rfl ?_
                        refine b_goto rfl ?_
                        exact S150 1 (Or.inl ⟨Or.inl hW, rfl⟩)
                      · exact absurd c_122 (by decide)
                    · rcases hbb with ⟨hb1, rfl⟩ | ⟨hb1, rfl⟩
                      · rcases htt with ⟨ht1, rfl⟩ | ⟨ht1, rfl⟩
                        · have hmo : mo = go := hval.resolve_right (fun z => ht1 z.1)
                          rw [hmo] at t8
                          have hl3 := oc_lt go
                          by_cases h0 : oc go = 0
                          · refine b_istore rfl (Nat.le_of_ble_eq_true rfl) ?_
                            refine b_iload_n rfl rfl ?_
                            refine b_if_ne rfl (fun c_122 => ?_) (fun c_122 => ?_)
                            · exact absurd rfl c_122
                            · refine b_iload rfl rfl ?_
                              refine b_if_eq rfl (fun c_127 => ?_) (fun c_127 => ?_)
                              · exact absurd c_127 (by decide)
                              · refine b_iload rfl rfl ?_
                                refine b_if_eq rfl (fun c_132 => ?_) (fun c_132 => ?_)
                                · exact absurd c_132 (by decide)
                                · refine b_aload_n rfl rfl ?_
                                  refine b_getR rfl (by first | rfl | assumption) rfl (by assumption) ?_
                                  refine b_iload rfl rfl ?_
                                  refine b_iaload rfl (by first | rfl | assumption) (by first | assumption | exact nI_toInt (by omega) | exact hi_l0 | exact hi_l1 | exact hi_l2 | exact hi_l3 | exact hi_l4 | exact hi_l5 | exact hi_l6) (by omega) ?_
                                  rw [t8, h0]
                                  refine b_if_ne rfl (fun c_142 => ?_) (fun c_142 => ?_)
                                  · exact absurd rfl c_142
                                  · refine b_iconst rfl ?_
                                    refine b_goto rfl ?_
                                    exact S150 1 (Or.inl ⟨Or.inr ⟨hb1, h0⟩, rfl⟩)
                          · refine b_istore rfl (Nat.le_of_ble_eq_true rfl) ?_
                            refine b_iload_n rfl rfl ?_
                            refine b_if_ne rfl (fun c_122 => ?_) (fun c_122 => ?_)
                            · exact absurd rfl c_122
                            · refine b_iload rfl rfl ?_
                              refine b_if_eq rfl (fun c_127 => ?_) (fun c_127 => ?_)
                              · exact absurd c_127 (by decide)
                              · refine b_iload rfl rfl ?_
                                refine b_if_eq rfl (fun c_132 => ?_) (fun c_132 => ?_)
                                · exact absurd c_132 (by decide)
                                · refine b_aload_n rfl rfl ?_
                                  refine b_getR rfl (by first | rfl | assumption) rfl (by assumption) ?_
                                  refine b_iload rfl rfl ?_
                                  refine b_iaload rfl (by first | rfl | assumption) (by first | assumption | exact nI_toInt (by omega) | exact hi_l0 | exact hi_l1 | exact hi_l2 | exact hi_l3 | exact hi_l4 | exact hi_l5 | exact hi_l6) (by omega) ?_
                                  rw [t8]
                                  refine b_if_ne rfl (fun c_142 => ?_) (fun c_142 => ?_)
                                  · refine b_iconst rfl ?_
                                    exact S150 0 (Or.inr ⟨fun z => z.elim hW (fun y => h0 y.2), rfl⟩)
                                  · exact absurd ((hi_nIe (k := 0) (by omega) (by omega)).mp c_142) h0
                        · have hgo : go = none := Classical.byContradiction ht1
                          refine b_istore rfl (Nat.le_of_ble_eq_true rfl) ?_
                          refine b_iload_n rfl rfl ?_
                          refine b_if_ne rfl (fun c_122 => ?_) (fun c_122 => ?_)
                          · exact absurd rfl c_122
                          · refine b_iload rfl rfl ?_
                            refine b_if_eq rfl (fun c_127 => ?_) (fun c_127 => ?_)
                            · exact absurd c_127 (by decide)
                            · refine b_iload rfl rfl ?_
                              refine b_if_eq rfl (fun c_132 => ?_) (fun c_132 => ?_)
                              · refine b_iconst rfl ?_
                                exact S150 0 (Or.inr ⟨fun z => z.elim hW (fun y => by have := y.2; rw [hgo] at this; exact absurd this (by decide)), rfl⟩)
                              · exact absurd rfl c_132
                      · refine b_istore rfl (Nat.le_of_ble_eq_true rfl) ?_
                        refine b_iload_n rfl rfl ?_
                        refine b_if_ne rfl (fun c_122 => ?_) (fun c_122 => ?_)
                        · exact absurd rfl c_122
                        · refine b_iload rfl rfl ?_
                          refine b_if_eq rfl (fun c_127 => ?_) (fun c_127 => ?_)
                          · refine b_iconst rfl ?_
                            exact S150 0 (Or.inr ⟨fun z => z.elim hW (fun y => hb1 y.1), rfl⟩)
                          · exact absurd rfl c_127
                  rcases (show go = none ∨ ∃ x, go = some x by cases go with | none => exact Or.inl rfl | some x => exact Or.inr ⟨x, rfl⟩) with hgo | ⟨x, hgo⟩
                  · rcases hval with hv | ⟨_, hv⟩
                    · rw [hv, hgo] at t9
                      refine b_istore rfl (Nat.le_of_ble_eq_true rfl) ?_
                      refine b_aload_n rfl rfl ?_
                      refine b_getR rfl (by first | rfl | assumption) rfl (by assumption) ?_
                      refine b_iload rfl rfl ?_
                      refine b_iaload rfl (by first | rfl | assumption) (by first | assumption | exact nI_toInt (by omega) | exact hi_l0 | exact hi_l1 | exact hi_l2 | exact hi_l3 | exact hi_l4 | exact hi_l5 | exact hi_l6) (by omega) ?_
                      rw [t9]
                      refine b_if_lt rfl (fun c_100 => ?_) (fun c_100 => ?_)
                      · refine b_iconst rfl ?_
                        exact S119 0 (Or.inr ⟨fun z => z hgo, rfl⟩)
                      · exact absurd (show sp_enc none < 0 by decide) c_100
                    · rw [hv] at t9
                      refine b_istore rfl (Nat.le_of_ble_eq_true rfl) ?_
                      refine b_aload_n rfl rfl ?_
                      refine b_getR rfl (by first | rfl | assumption) rfl (by assumption) ?_
                      refine b_iload rfl rfl ?_
                      refine b_iaload rfl (by first | rfl | assumption) (by first | assumption | exact nI_toInt (by omega) | exact hi_l0 | exact hi_l1 | exact hi_l2 | exact hi_l3 | exact hi_l4 | exact hi_l5 | exact hi_l6) (by omega) ?_
                      rw [t9]
                      refine b_if_lt rfl (fun c_100 => ?_) (fun c_100 => ?_)
                      · refine b_iconst rfl ?_
                        exact S119 0 (Or.inr ⟨fun z => z hgo, rfl⟩)
                      · refine b_aload_n rfl rfl ?_
                        refine b_getR rfl (by first | rfl | assumption) rfl (by assumption) ?_
                        refine b_iload rfl rfl ?_
                        refine b_iaload rfl (by first | rfl | assumption) (by first | assumption | exact nI_toInt (by omega) | exact hi_l0 | exact hi_l1 | exact hi_l2 | exact hi_l3 | exact hi_l4 | exact hi_l5 | exact hi_l6) (by omega) ?_
                        rw [t9]
                        refine b_iload_n rfl rfl ?_
                        refine b_icmp_ge rfl (fun c_111 => ?_) (fun c_111 => ?_)
                        · refine b_iconst rfl ?_
                          exact S119 0 (Or.inr ⟨fun z => z hgo, rfl⟩)
                        · exact absurd (show nI r ≤ sp_enc (some r) from nI_le (Nat.le_refl _) (by omega)) c_111
                  · have hv : mo = go := hval.resolve_right (fun z => by rw [hgo] at z; exact absurd z.1 (fun y => by cases y))
                    rw [hv, hgo] at t9
                    have hxr := hwo x hgo
                    have t9 : I' 209 o = nI x := t9
                    refine b_istore rfl (Nat.le_of_ble_eq_true rfl) ?_
                    refine b_aload_n rfl rfl ?_
                    refine b_getR rfl (by first | rfl | assumption) rfl (by assumption) ?_
                    refine b_iload rfl rfl ?_
                    refine b_iaload rfl (by first | rfl | assumption) (by first | assumption | exact nI_toInt (by omega) | exact hi_l0 | exact hi_l1 | exact hi_l2 | exact hi_l3 | exact hi_l4 | exact hi_l5 | exact hi_l6) (by omega) ?_
                    rw [t9]
                    refine b_if_lt rfl (fun c_100 => ?_) (fun c_100 => ?_)
                    · exact absurd ((hi_lt (nI_toInt (n := x) (by omega)) hi_t0).mp c_100) (by omega)
                    · refine b_aload_n rfl rfl ?_
                      refine b_getR rfl (by first | rfl | assumption) rfl (by assumption) ?_
                      refine b_iload rfl rfl ?_
                      refine b_iaload rfl (by first | rfl | assumption) (by first | assumption | exact nI_toInt (by omega) | exact hi_l0 | exact hi_l1 | exact hi_l2 | exact hi_l3 | exact hi_l4 | exact hi_l5 | exact hi_l6) (by omega) ?_
                      rw [t9]
                      refine b_iload_n rfl rfl ?_
                      refine b_icmp_ge rfl (fun c_111 => ?_) (fun c_111 => ?_)
                      · exact absurd c_111 (nI_ge hxr (by omega))
                      · refine b_iconst rfl ?_
                        refine b_goto rfl ?_
                        exact S119 1 (Or.inl ⟨fun z => (by rw [hgo] at z; cases z), rfl⟩)
                refine b_iload rfl rfl ?_
                refine b_aload_n rfl rfl ?_
                refine b_callV rfl rfl hk_M_knots rfl rfl rfl (by first | rfl | assumption) rfl (Nat.le_of_ble_eq_true rfl) (q_M_knots hM9 hn') (Nat.le_of_ble_eq_true rfl) (fun r_66 D_66 q_66 => ?_)
                obtain ⟨rfl, rfl⟩ := q_66
                refine b_icmp_ge rfl (fun c_69 => ?_) (fun c_69 => ?_)
                · exact absurd c_69 (nI_ge ho (by omega))
                · refine b_aload_n rfl rfl ?_
                  refine b_iload_n rfl rfl ?_
                  refine b_callV rfl rfl hk_M_stringsFrom rfl rfl rfl (by first | rfl | assumption) rfl (Nat.le_of_ble_eq_true rfl) (q_M_stringsFrom hB' (show k < 8 by omega)) (Nat.le_of_ble_eq_true rfl) (fun r_74 D_74 q_74 => ?_)
                  obtain ⟨rfl, rfl⟩ := q_74
                  refine b_iload rfl rfl ?_
                  refine b_ishr rfl ?_
                  refine b_iconst rfl ?_
                  refine b_iand rfl ?_
                  refine b_iconst rfl ?_
                  refine b_icmp_ne rfl (fun c_83 => ?_) (fun c_83 => ?_)
                  · refine b_iconst rfl ?_
                    first | exact S91 1 (Or.inl ⟨hbe.mp c_83, rfl⟩) | exact S91 0 (Or.inr ⟨fun z => c_83 (hbe.mpr z), rfl⟩)
                  · refine b_iconst rfl ?_
                    refine b_goto rfl ?_
                    first | exact S91 1 (Or.inl ⟨hbe.mp c_83, rfl⟩) | exact S91 0 (Or.inr ⟨fun z => c_83 (hbe.mpr z), rfl⟩)
            refine b_iload_n rfl rfl ?_
            refine b_aload_n rfl rfl ?_
            refine b_callV rfl rfl hk_M_knots rfl rfl rfl (by first | rfl | assumption) rfl (Nat.le_of_ble_eq_true rfl) (q_M_knots hM9 hn') (Nat.le_of_ble_eq_true rfl) (fun r_40 D_40 q_40 => ?_)
            obtain ⟨rfl, rfl⟩ := q_40
            refine b_icmp_ge rfl (fun c_43 => ?_) (fun c_43 => ?_)
            · exact absurd c_43 (nI_ge hk (by omega))
            · refine b_aload_n rfl rfl ?_
              refine b_getR rfl (by first | rfl | assumption) rfl (by assumption) ?_
              refine b_iload_n rfl rfl ?_
              refine b_iaload rfl (by first | rfl | assumption) (by first | assumption | exact nI_toInt (by omega) | exact hi_l0 | exact hi_l1 | exact hi_l2 | exact hi_l3 | exact hi_l4 | exact hi_l5 | exact hi_l6) (by omega) ?_
              rw [e209]
              refine b_if_ge rfl (fun c_52 => ?_) (fun c_52 => ?_)
              · exact absurd c_52 (show ¬ 0 ≤ sp_enc none by decide)
              · refine b_iconst rfl ?_
                refine b_istore_n rfl (Nat.le_of_ble_eq_true rfl) ?_
                refine b_iconst rfl ?_
                refine b_istore rfl (Nat.le_of_ble_eq_true rfl) ?_
                refine b_iconst rfl ?_
                refine b_istore rfl (Nat.le_of_ble_eq_true rfl) ?_
                exact b_lp (lo 0 1 (Or.inr ⟨fun ⟨o, ho, _⟩ => absurd ho (by omega), rfl⟩) (Or.inl ⟨fun o ho => absurd ho (by omega), rfl⟩)) (le_e (le_e (le_e (le_e (le_e (le_q (by rfl) (le_n (le_n le_0)))))))) rfl rfl
          · have hS : ¬ tg_s (qS Q) N.1 r (tg (qS Q) N.1 r) k := fun z => hu z.2.1
            obtain ⟨x, hx⟩ : ∃ x, tg (qS Q) N.1 r k = some x := by cases e : tg (qS Q) N.1 r k with | none => exact absurd e hu | some x => exact ⟨x, rfl⟩
            have hxr := hwx k x hx
            rw [hx] at e209
            have e209 : I' 209 k = nI x := e209
            refine b_iload_n rfl rfl ?_
            refine b_aload_n rfl rfl ?_
            refine b_callV rfl rfl hk_M_knots rfl rfl rfl (by first | rfl | assumption) rfl (Nat.le_of_ble_eq_true rfl) (q_M_knots hM9 hn') (Nat.le_of_ble_eq_true rfl) (fun r_40 D_40 q_40 => ?_)
            obtain ⟨rfl, rfl⟩ := q_40
            refine b_icmp_ge rfl (fun c_43 => ?_) (fun c_43 => ?_)
            · exact absurd c_43 (nI_ge hk (by omega))
            · refine b_aload_n rfl rfl ?_
              refine b_getR rfl (by first | rfl | assumption) rfl (by assumption) ?_
              refine b_iload_n rfl rfl ?_
              refine b_iaload rfl (by first | rfl | assumption) (by first | assumption | exact nI_toInt (by omega) | exact hi_l0 | exact hi_l1 | exact hi_l2 | exact hi_l3 | exact hi_l4 | exact hi_l5 | exact hi_l6) (by omega) ?_
              rw [e209]
              refine b_if_ge rfl (fun c_52 => ?_) (fun c_52 => ?_)
              · refine b_iinc rfl rfl (Nat.le_of_ble_eq_true rfl) ?_
                refine b_goto rfl ?_
                exact b_lp (ih2 I' hf (hs_Tg_same hT hS)) (le_e (le_e (le_q (by rw [nI_succ]) (le_n (le_n (le_n (le_n (le_n le_0)))))))) rfl rfl
              · exact absurd (hi_nlt0 x (by omega)) c_52
      rw [← tg_m_0 (s := qS Q) (n := N.1) (r := r) (f := tg (qS Q) N.1 r)] at hT
      refine b_iload_n rfl rfl ?_
      refine b_bipush rfl ?_
      refine b_icmp_gt rfl (fun c_33 => ?_) (fun c_33 => ?_)
      · exact absurd c_33 c33
      · refine b_iconst rfl ?_
        refine b_istore_n rfl (Nat.le_of_ble_eq_true rfl) ?_
        exact b_lp (lk I' hf hT) (le_e (le_e (le_q (by rfl) (le_n (le_n (le_n (le_n (le_n le_0)))))))) rfl rfl
  have l0 : ∀ I', (∀ b, b ≠ 208 → b ≠ 209 → I' b = I b) → (∀ k, k < 0 → I' 208 k = 2 ∧ I' 209 k = -1) → hn_B 2 hm_M_tugsNow P 2 [.ref 188, .int (nI 0), .null, .null, .null, .null, .null, .null] [] (I', J, R) := by
    refine sp_ind 8 (fun k => ∀ I', (∀ b, b ≠ 208 → b ≠ 209 → I' b = I b) → (∀ j, j < k → I' 208 j = 2 ∧ I' 209 j = -1) → hn_B 2 hm_M_tugsNow P 2 [.ref 188, .int (nI k), .null, .null, .null, .null, .null, .null] [] (I', J, R)) ?_ ?_
    · intro I' hf hT
      refine b_iload_n rfl rfl ?_
      refine b_bipush rfl ?_
      refine b_icmp_ge rfl (fun c_5 => ?_) (fun c_5 => ?_)
      · refine b_iconst rfl ?_
        refine b_istore_n rfl (Nat.le_of_ble_eq_true rfl) ?_
        exact b_lp (lr I' hf (fun k hk => ⟨(hT k hk).1, (hT k hk).2⟩)) (le_e (le_q (by rfl) (le_n (le_n (le_n (le_n (le_n (le_n le_0)))))))) rfl rfl
      · exact absurd hi_88 c_5
    · intro k hk ih I' hf hT
      have hst : ∀ j, j < k + 1 → hn_u (hn_u I' 208 k 2) 209 k (-1) 208 j = 2 ∧ hn_u (hn_u I' 208 k 2) 209 k (-1) 209 j = -1 := by
        intro j hj
        rw [hn_u_ne _ _ _ (show 208 ≠ 209 by omega), hn_u_eq, hn_u_eq, hn_u_ne _ _ _ (show 209 ≠ 208 by omega)]
        unfold va_up
        by_cases e : j = k
        · rw [if_pos e, if_pos e]; exact ⟨rfl, rfl⟩
        · rw [if_neg e, if_neg e]; exact hT j (by omega)
      refine b_iload_n rfl rfl ?_
      refine b_bipush rfl ?_
      refine b_icmp_ge rfl (fun c_5 => ?_) (fun c_5 => ?_)
      · exact absurd c_5 (hi_ge8 hk)
      · refine b_aload_n rfl rfl ?_
        refine b_getR rfl (by first | rfl | assumption) rfl (by assumption) ?_
        refine b_iload_n rfl rfl ?_
        refine b_iconst rfl ?_
        refine b_iastore rfl (by first | rfl | assumption) (by first | assumption | exact nI_toInt (by omega) | exact hi_l0 | exact hi_l1 | exact hi_l2 | exact hi_l3 | exact hi_l4 | exact hi_l5 | exact hi_l6) (by omega) ?_
        refine b_aload_n rfl rfl ?_
        refine b_getR rfl (by first | rfl | assumption) rfl (by assumption) ?_
        refine b_iload_n rfl rfl ?_
        refine b_iconst rfl ?_
        refine b_iastore rfl (by first | rfl | assumption) (by first | assumption | exact nI_toInt (by omega) | exact hi_l0 | exact hi_l1 | exact hi_l2 | exact hi_l3 | exact hi_l4 | exact hi_l5 | exact hi_l6) (by omega) ?_
        refine b_iinc rfl rfl (Nat.le_of_ble_eq_true rfl) ?_
        refine b_goto rfl ?_
        exact b_lp (ih _ (fun b h1 h2 => by rw [hn_u_ne _ _ _ h2, hn_u_ne _ _ _ h1]; exact hf b h1 h2) hst) (le_e (le_q (by rw [nI_succ]) (le_n (le_n (le_n (le_n (le_n (le_n le_0)))))))) rfl rfl
  refine b_iconst rfl ?_
  refine b_istore_n rfl (Nat.le_of_ble_eq_true rfl) ?_
  exact b_lp (l0 I (fun _ _ _ => rfl) (fun k hk => absurd hk (by omega))) (le_e (le_q (by rw [nI_0]) (le_n (le_n (le_n (le_n (le_n (le_n le_0)))))))) rfl rfl
theorem q_M_tug {x w : Int32} (hB : hs_B I R N Q) : hn_F 3 hm_M_tug [.ref 188, .int x, .int w] (I, J, R) (fun r D' => hs_sm I J R D' ∧ r = some (.int (v_tug N Q x w))) := by
  have n8' : N.1 ≤ 8 := hB.2.1.1.2.1
  refine hn_F_of _ hk_M_tug rfl (Nat.le_of_ble_eq_true rfl) ?_
  have t1 : (1 : Int32).toInt = 1 := rfl
  by_cases hx : sp_in x N.1
  · obtain ⟨k, hk, rfl⟩ := sp_in_nat hx
    rw [v_tug, sp_at_in hk n8']
    by_cases hw9 : (0 : Int32).toInt ≤ w.toInt ∧ w.toInt ≤ (1 : Int32).toInt
    · rcases hi_01 (w := w) (by have := hw9.1; rw [hi_t0] at this; exact this) (by have := hw9.2; rw [t1] at this; exact this) with rfl | rfl
      · refine b_aload_n rfl rfl ?_
        refine b_iconst rfl ?_
        refine b_putI rfl (by first | rfl | assumption) rfl rfl ⟨rfl, rfl⟩ ?_
        have hB1 := hs_B_0 (v := 0) hB
        have hs0 : hs_sm I J R (hn_u I 188 0 0, J, R) := hs_sm_0
        obtain ⟨I0, h0⟩ : ∃ z, z = hn_u I 188 0 0 := ⟨_, rfl⟩
        rw [← h0] at hB1 hs0 ⊢
        have e0 : ∀ b, b ≠ 188 → I0 b = I b := fun b hb => by rw [h0, hn_u_ne _ _ _ hb]
        have e188 : ∀ j, j ≠ 0 → I0 188 j = I 188 j := fun j hj => by rw [h0, hn_u_eq, va_up, if_neg hj]
        have hB2 := hB1
        obtain ⟨hR, hN, hQ, hfm, hw, hAw⟩ := hB1
        have hM := hs_M_of hR
        have hN0 := hN
        have hQ0 := hQ
        have hw0 := hw
        obtain ⟨⟨hn, n8, hnp, n4, hkn⟩, hL⟩ := hN
        obtain ⟨⟨_, hVs, hVw, hVp, hVh⟩, hVt⟩ := hQ
        simp only [Nat.zero_add] at hVs hVw hVp hVh
        obtain ⟨m1, m4, m5, m6, m9, m10, m11, m12, m14, m15, m16, m17, m20, m21, m22, m23, m25, m27, m28, m29, m30, m31, m32⟩ := id hM
        refine b_aload_n rfl rfl ?_
        refine b_iload_n rfl rfl ?_
        refine b_callV rfl rfl hk_M_isKnot rfl rfl rfl (by first | rfl | assumption) rfl (Nat.le_of_ble_eq_true rfl) (q_M_isKnot hM hn n8) (Nat.le_of_ble_eq_true rfl) (fun r_7 D_7 q_7 => ?_)
        obtain ⟨rfl, hq⟩ := q_7
        rw [if_pos hx] at hq
        subst hq
        refine b_if_eq rfl (fun c_10 => ?_) (fun c_10 => ?_)
        · exact absurd c_10 (by decide)
        · refine b_iload_n rfl rfl ?_
          refine b_iconst rfl ?_
          refine b_iconst rfl ?_
          refine b_callS rfl rfl hk_M_within rfl rfl rfl (Nat.le_of_ble_eq_true rfl) (q_M_within) (Nat.le_of_ble_eq_true rfl) (fun r_16 D_16 q_16 => ?_)
          obtain ⟨rfl, hq⟩ := q_16
          rw [if_pos hw9] at hq
          subst hq
          refine b_if_ne rfl (fun c_19 => ?_) (fun c_19 => ?_)
          · refine b_aload_n rfl rfl ?_
            refine b_callV rfl rfl hk_M_tugsNow rfl rfl rfl (by first | rfl | assumption) rfl (Nat.le_of_ble_eq_true rfl) (q_M_tugsNow hB2) (Nat.le_of_ble_eq_true rfl) (fun r_26 D_26 q_26 => ?_)
            obtain ⟨rfl, I2, rfl, hf, hT⟩ := q_26
            refine b_iload_n rfl rfl ?_
            refine b_if_ne rfl (fun c_30 => ?_) (fun c_30 => ?_)
            · exact absurd rfl c_30
            · refine b_aload_n rfl rfl ?_
              refine b_getR rfl (by first | rfl | assumption) rfl (by assumption) ?_
              refine b_iload_n rfl rfl ?_
              refine b_iaload rfl (by first | rfl | assumption) (by first | assumption | exact nI_toInt (by omega) | exact hi_l0 | exact hi_l1 | exact hi_l2 | exact hi_l3 | exact hi_l4 | exact hi_l5 | exact hi_l6) (by omega) ?_
              rw [(hT k (by omega)).1]
              refine b_goto rfl ?_
              exact b_ireturn rfl trivial (⟨sm_y hs0 (fun b hb => hf b (by omega) (by omega)), rfl⟩)
          · exact absurd c_19 (by decide)
      · refine b_aload_n rfl rfl ?_
        refine b_iconst rfl ?_
        refine b_putI rfl (by first | rfl | assumption) rfl rfl ⟨rfl, rfl⟩ ?_
        have hB1 := hs_B_0 (v := 0) hB
        have hs0 : hs_sm I J R (hn_u I 188 0 0, J, R) := hs_sm_0
        obtain ⟨I0, h0⟩ : ∃ z, z = hn_u I 188 0 0 := ⟨_, rfl⟩
        rw [← h0] at hB1 hs0 ⊢
        have e0 : ∀ b, b ≠ 188 → I0 b = I b := fun b hb => by rw [h0, hn_u_ne _ _ _ hb]
        have e188 : ∀ j, j ≠ 0 → I0 188 j = I 188 j := fun j hj => by rw [h0, hn_u_eq, va_up, if_neg hj]
        have hB2 := hB1
        obtain ⟨hR, hN, hQ, hfm, hw, hAw⟩ := hB1
        have hM := hs_M_of hR
        have hN0 := hN
        have hQ0 := hQ
        have hw0 := hw
        obtain ⟨⟨hn, n8, hnp, n4, hkn⟩, hL⟩ := hN
        obtain ⟨⟨_, hVs, hVw, hVp, hVh⟩, hVt⟩ := hQ
        simp only [Nat.zero_add] at hVs hVw hVp hVh
        obtain ⟨m1, m4, m5, m6, m9, m10, m11, m12, m14, m15, m16, m17, m20, m21, m22, m23, m25, m27, m28, m29, m30, m31, m32⟩ := id hM
        refine b_aload_n rfl rfl ?_
        refine b_iload_n rfl rfl ?_
        refine b_callV rfl rfl hk_M_isKnot rfl rfl rfl (by first | rfl | assumption) rfl (Nat.le_of_ble_eq_true rfl) (q_M_isKnot hM hn n8) (Nat.le_of_ble_eq_true rfl) (fun r_7 D_7 q_7 => ?_)
        obtain ⟨rfl, hq⟩ := q_7
        rw [if_pos hx] at hq
        subst hq
        refine b_if_eq rfl (fun c_10 => ?_) (fun c_10 => ?_)
        · exact absurd c_10 (by decide)
        · refine b_iload_n rfl rfl ?_
          refine b_iconst rfl ?_
          refine b_iconst rfl ?_
          refine b_callS rfl rfl hk_M_within rfl rfl rfl (Nat.le_of_ble_eq_true rfl) (q_M_within) (Nat.le_of_ble_eq_true rfl) (fun r_16 D_16 q_16 => ?_)
          obtain ⟨rfl, hq⟩ := q_16
          rw [if_pos hw9] at hq
          subst hq
          refine b_if_ne rfl (fun c_19 => ?_) (fun c_19 => ?_)
          · refine b_aload_n rfl rfl ?_
            refine b_callV rfl rfl hk_M_tugsNow rfl rfl rfl (by first | rfl | assumption) rfl (Nat.le_of_ble_eq_true rfl) (q_M_tugsNow hB2) (Nat.le_of_ble_eq_true rfl) (fun r_26 D_26 q_26 => ?_)
            obtain ⟨rfl, I2, rfl, hf, hT⟩ := q_26
            refine b_iload_n rfl rfl ?_
            refine b_if_ne rfl (fun c_30 => ?_) (fun c_30 => ?_)
            · refine b_aload_n rfl rfl ?_
              refine b_getR rfl (by first | rfl | assumption) rfl (by assumption) ?_
              refine b_iload_n rfl rfl ?_
              refine b_iaload rfl (by first | rfl | assumption) (by first | assumption | exact nI_toInt (by omega) | exact hi_l0 | exact hi_l1 | exact hi_l2 | exact hi_l3 | exact hi_l4 | exact hi_l5 | exact hi_l6) (by omega) ?_
              rw [(hT k (by omega)).2]
              exact b_ireturn rfl trivial (⟨sm_y hs0 (fun b hb => hf b (by omega) (by omega)), rfl⟩)
            · exact absurd c_30 (by decide)
          · exact absurd c_19 (by decide)
    · rw [if_neg (fun z => hw9 (by rw [z]; decide)), if_neg (fun z => hw9 (by rw [z]; decide))]
      refine b_aload_n rfl rfl ?_
      refine b_iconst rfl ?_
      refine b_putI rfl (by first | rfl | assumption) rfl rfl ⟨rfl, rfl⟩ ?_
      have hB1 := hs_B_0 (v := 0) hB
      have hs0 : hs_sm I J R (hn_u I 188 0 0, J, R) := hs_sm_0
      obtain ⟨I0, h0⟩ : ∃ z, z = hn_u I 188 0 0 := ⟨_, rfl⟩
      rw [← h0] at hB1 hs0 ⊢
      have e0 : ∀ b, b ≠ 188 → I0 b = I b := fun b hb => by rw [h0, hn_u_ne _ _ _ hb]
      have e188 : ∀ j, j ≠ 0 → I0 188 j = I 188 j := fun j hj => by rw [h0, hn_u_eq, va_up, if_neg hj]
      have hB2 := hB1
      obtain ⟨hR, hN, hQ, hfm, hw, hAw⟩ := hB1
      have hM := hs_M_of hR
      have hN0 := hN
      have hQ0 := hQ
      have hw0 := hw
      obtain ⟨⟨hn, n8, hnp, n4, hkn⟩, hL⟩ := hN
      obtain ⟨⟨_, hVs, hVw, hVp, hVh⟩, hVt⟩ := hQ
      simp only [Nat.zero_add] at hVs hVw hVp hVh
      obtain ⟨m1, m4, m5, m6, m9, m10, m11, m12, m14, m15, m16, m17, m20, m21, m22, m23, m25, m27, m28, m29, m30, m31, m32⟩ := id hM
      refine b_aload_n rfl rfl ?_
      refine b_iload_n rfl rfl ?_
      refine b_callV rfl rfl hk_M_isKnot rfl rfl rfl (by first | rfl | assumption) rfl (Nat.le_of_ble_eq_true rfl) (q_M_isKnot hM hn n8) (Nat.le_of_ble_eq_true rfl) (fun r_7 D_7 q_7 => ?_)
      obtain ⟨rfl, hq⟩ := q_7
      rw [if_pos hx] at hq
      subst hq
      refine b_if_eq rfl (fun c_10 => ?_) (fun c_10 => ?_)
      · exact absurd c_10 (by decide)
      · refine b_iload_n rfl rfl ?_
        refine b_iconst rfl ?_
        refine b_iconst rfl ?_
        refine b_callS rfl rfl hk_M_within rfl rfl rfl (Nat.le_of_ble_eq_true rfl) (q_M_within) (Nat.le_of_ble_eq_true rfl) (fun r_16 D_16 q_16 => ?_)
        obtain ⟨rfl, hq⟩ := q_16
        rw [if_neg hw9] at hq
        subst hq
        refine b_if_ne rfl (fun c_19 => ?_) (fun c_19 => ?_)
        · exact absurd rfl c_19
        · refine b_bipush rfl ?_
          exact b_ireturn rfl trivial (⟨hs0, rfl⟩)
  · rw [v_tug, sp_at_out hx]
    refine b_aload_n rfl rfl ?_
    refine b_iconst rfl ?_
    refine b_putI rfl (by first | rfl | assumption) rfl rfl ⟨rfl, rfl⟩ ?_
    have hB1 := hs_B_0 (v := 0) hB
    have hs0 : hs_sm I J R (hn_u I 188 0 0, J, R) := hs_sm_0
    obtain ⟨I0, h0⟩ : ∃ z, z = hn_u I 188 0 0 := ⟨_, rfl⟩
    rw [← h0] at hB1 hs0 ⊢
    have e0 : ∀ b, b ≠ 188 → I0 b = I b := fun b hb => by rw [h0, hn_u_ne _ _ _ hb]
    have e188 : ∀ j, j ≠ 0 → I0 188 j = I 188 j := fun j hj => by rw [h0, hn_u_eq, va_up, if_neg hj]
    have hB2 := hB1
    obtain ⟨hR, hN, hQ, hfm, hw, hAw⟩ := hB1
    have hM := hs_M_of hR
    have hN0 := hN
    have hQ0 := hQ
    have hw0 := hw
    obtain ⟨⟨hn, n8, hnp, n4, hkn⟩, hL⟩ := hN
    obtain ⟨⟨_, hVs, hVw, hVp, hVh⟩, hVt⟩ := hQ
    simp only [Nat.zero_add] at hVs hVw hVp hVh
    obtain ⟨m1, m4, m5, m6, m9, m10, m11, m12, m14, m15, m16, m17, m20, m21, m22, m23, m25, m27, m28, m29, m30, m31, m32⟩ := id hM
    refine b_aload_n rfl rfl ?_
    refine b_iload_n rfl rfl ?_
    refine b_callV rfl rfl hk_M_isKnot rfl rfl rfl (by first | rfl | assumption) rfl (Nat.le_of_ble_eq_true rfl) (q_M_isKnot hM hn n8) (Nat.le_of_ble_eq_true rfl) (fun r_7 D_7 q_7 => ?_)
    obtain ⟨rfl, hq⟩ := q_7
    rw [if_neg hx] at hq
    subst hq
    refine b_if_eq rfl (fun c_10 => ?_) (fun c_10 => ?_)
    · refine b_bipush rfl ?_
      exact b_ireturn rfl trivial (⟨hs0, rfl⟩)
    · exact absurd rfl c_10
end HNmtug
