section HNreadknot
variable {I I' : Nat → Nat → Int32} {J J' : Nat → Nat → Int64} {R R' : Nat → Nat → Option Nat}
theorem q_Reader_readKnot {f : Nat → Nat} {n t kn pn : Nat} {nm pm : Nat → Nat} {s : rd} (h : hs_Rd I J R f n s) (h0 : s.1 = 0) (hN : hs_Net R t) (hSt : hs_St R (t + 11)) (hn : hs_Nn I J t kn nm pn pm) : hn_F 4 hm_Reader_readKnot [.ref 3, .ref t] (I, J, R) (fun r D' => r = none ∧ ∃ I2 J2 R2, hs_rf I J R I2 J2 R2 ∧ hs_Rd I2 J2 R2 f n (p_kn f n nm kn pm pn s) ∧ D' = (if (p_kn f n nm kn pm pn s).1 = 0 then (hn_u (hn_u (hn_u I2 (t + 2) kn (nI (wx (tq f n (s.2 + 2)) - 15))) (t + 3) kn (nI (tq f n (s.2 + 4)).2.2.2)) t 0 (nI (kn + 1)), hn_u J2 (t + 1) kn (nJ (tq f n (s.2 + 1)).2.2.2), R2) else (I2, J2, R2))) := by
  refine hn_F_of _ hk_Reader_readKnot rfl (Nat.le_of_ble_eq_true rfl) ?_
  have hka := hN.2.1
  have hk8 := hn.2.1
  have ht4 := hN.1
  obtain ⟨P, hP⟩ : ∃ P : Option Value → hnD → Prop, P = (fun r D' => r = none ∧ ∃ I2 J2 R2, hs_rf I J R I2 J2 R2 ∧ hs_Rd I2 J2 R2 f n (p_kn f n nm kn pm pn s) ∧ D' = (if (p_kn f n nm kn pm pn s).1 = 0 then (hn_u (hn_u (hn_u I2 (t + 2) kn (nI (wx (tq f n (s.2 + 2)) - 15))) (t + 3) kn (nI (tq f n (s.2 + 4)).2.2.2)) t 0 (nI (kn + 1)), hn_u J2 (t + 1) kn (nJ (tq f n (s.2 + 1)).2.2.2), R2) else (I2, J2, R2))) := ⟨_, rfl⟩
  rw [← hP]
  have S15 : ∀ b, fg (8 ≤ kn) b → hn_B 4 hm_Reader_readKnot P 15 [.ref 3, .ref t, .null, .null, .null, .null] [.int b, .ref 3] (I, J, R) := by
    intro b hb
    refine b_iconst rfl ?_
    refine b_callV rfl rfl hk_Reader_takeUnless rfl rfl rfl (by first | rfl | assumption) rfl (Nat.le_of_ble_eq_true rfl) (q_Reader_takeUnless (c := 5) h h0 hb (by omega)) (Nat.le_of_ble_eq_true rfl) (fun r_16 D_16 q_16 => ?_)
    obtain ⟨rfl, I1, J1, R1, rfl, g1, k1⟩ := q_16
    refine b_aload_n rfl rfl ?_
    refine b_aload_n rfl rfl ?_
    refine b_callV rfl rfl hk_Reader_takeNewName rfl rfl rfl (by first | rfl | assumption) rfl (Nat.le_of_ble_eq_true rfl) (q_Reader_takeNewName k1 (hs_Net_rf hN g1) (hs_St_rf hSt g1) (hs_Nn_rf hn ht4 g1)) (Nat.le_of_ble_eq_true rfl) (fun r_21 D_21 q_21 => ?_)
    obtain ⟨v, rfl, hv, I2, J2, R2, rfl, g2, k2⟩ := q_21
    refine b_lstore_n rfl (Nat.le_of_ble_eq_true rfl) ?_
    refine b_aload_n rfl rfl ?_
    refine b_callV rfl rfl hk_Reader_takeKind rfl rfl rfl (by first | rfl | assumption) rfl (Nat.le_of_ble_eq_true rfl) (q_Reader_takeKind k2) (Nat.le_of_ble_eq_true rfl) (fun r_26 D_26 q_26 => ?_)
    obtain ⟨kd, rfl, hkd, I3, J3, R3, rfl, g3, k3⟩ := q_26
    refine b_istore rfl (Nat.le_of_ble_eq_true rfl) ?_
    refine b_aload_n rfl rfl ?_
    refine b_getsW rfl ?_
    refine b_callV rfl rfl hk_Reader_takeWord rfl rfl rfl (by first | rfl | assumption) rfl (Nat.le_of_ble_eq_true rfl) (q_Reader_takeWord (w := 3) k3 (by omega)) (Nat.le_of_ble_eq_true rfl) (fun r_35 D_35 q_35 => ?_)
    obtain ⟨rfl, I4, J4, R4, rfl, g4, k4⟩ := q_35
    refine b_aload_n rfl rfl ?_
    refine b_bipush rfl ?_
    refine b_callV rfl rfl hk_Reader_takeNumber rfl rfl rfl (by first | rfl | assumption) rfl (Nat.le_of_ble_eq_true rfl) (q_Reader_takeNumber (m := 20) k4 (by omega)) (Nat.le_of_ble_eq_true rfl) (fun r_41 D_41 q_41 => ?_)
    obtain ⟨hd, rfl, hhd, I5, J5, R5, rfl, g5, k5⟩ := q_41
    refine b_istore rfl (Nat.le_of_ble_eq_true rfl) ?_
    refine b_aload_n rfl rfl ?_
    refine b_callV rfl rfl hk_Reader_takeEnd rfl rfl rfl (by first | rfl | assumption) rfl (Nat.le_of_ble_eq_true rfl) (q_Reader_takeEnd k5) (Nat.le_of_ble_eq_true rfl) (fun r_47 D_47 q_47 => ?_)
    obtain ⟨rfl, I6, J6, R6, rfl, g6, k6⟩ := q_47
    have gg := hs_rf_t (hs_rf_t (hs_rf_t (hs_rf_t (hs_rf_t g1 g2) g3) g4) g5) g6
    have k7 : hs_Rd I6 J6 R6 f n (p_kn f n nm kn pm pn s) := k6
    have e6 := k7.2.2.2.2.1
    have b6 := k7.2.2.2.2.2
    refine b_aload_n rfl rfl ?_
    refine b_getI rfl (by first | rfl | assumption) rfl ?_
    rw [e6]
    refine b_if_ne rfl (fun c_54 => ?_) (fun c_54 => ?_)
    · exact b_return_ rfl trivial ((by rw [hP]; first | exact ⟨rfl, _, _, _, gg, k7, by rw [if_pos hz, v1, v2, v3]⟩ | exact ⟨rfl, _, _, _, gg, k7, by rw [if_neg (fun z => c_54 (by rw [z]; rfl))]⟩))
    · have hz := (hi_nIe (i := (p_kn f n nm kn pm pn s).1) (k := 0) (by omega) (by omega)).mp c_54
      have hl := p_kn_1 hz
      refine b_aload_n rfl rfl ?_
      refine b_lload_n rfl rfl ?_
      refine b_iload rfl rfl ?_
      refine b_iload rfl rfl ?_
      refine b_callV rfl rfl hk_Net_addKnot rfl rfl rfl (by first | rfl | assumption) rfl (Nat.le_of_ble_eq_true rfl) (q_Net_addKnot (hs_Net_rf hN gg) (hs_Nn_rf hn ht4 gg).1 hl.1) (Nat.le_of_ble_eq_true rfl) (fun r_63 D_63 q_63 => ?_)
      obtain ⟨rfl, rfl⟩ := q_63
      rw [hl.2.2.2.2.2.1] at hv hkd hhd
      rw [hl.2.2.2.2.2.2.1] at hkd hhd
      rw [hl.2.2.2.2.2.2.2.1, hl.2.2.2.2.2.2.2.2.1] at hhd
      have v1 := hv hl.2.1
      have v2 := hkd hl.2.2.1
      have v3 := hhd rfl hl.2.2.2.1
      exact b_return_ rfl trivial ((by rw [hP]; first | exact ⟨rfl, _, _, _, gg, k7, by rw [if_pos hz, v1, v2, v3]⟩ | exact ⟨rfl, _, _, _, gg, k7, by rw [if_neg (fun z => c_54 (by rw [z]; rfl))]⟩))
  have hlt : nI kn < 8 ↔ kn < 8 := nI_lt_c (k := 8) (by omega) (by omega)
  refine b_aload_n rfl rfl ?_
  refine b_aload_n rfl rfl ?_
  refine b_getI rfl (by first | rfl | assumption) rfl ?_
  rw [hn.1]
  refine b_bipush rfl ?_
  refine b_icmp_lt rfl (fun c_7 => ?_) (fun c_7 => ?_)
  · refine b_iconst rfl ?_
    first | exact S15 1 (Or.inl ⟨Nat.le_of_not_lt (fun z => c_7 (hlt.mpr z)), rfl⟩) | exact S15 0 (Or.inr ⟨fun z => absurd (hlt.mp c_7) (Nat.not_lt.mpr z), rfl⟩)
  · refine b_iconst rfl ?_
    refine b_goto rfl ?_
    first | exact S15 1 (Or.inl ⟨Nat.le_of_not_lt (fun z => c_7 (hlt.mpr z)), rfl⟩) | exact S15 0 (Or.inr ⟨fun z => absurd (hlt.mp c_7) (Nat.not_lt.mpr z), rfl⟩)
end HNreadknot
