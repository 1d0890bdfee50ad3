section HNreadperson
variable {I I' : Nat → Nat → Int32} {J J' : Nat → Nat → Int64} {R R' : Nat → Nat → Option Nat}
/-- a line of a person -/
def p_pn (f : Nat → Nat) (n : Nat) (nm : Nat → Nat) (kn : Nat) (pm : Nat → Nat) (pn : Nat) (s : rd) : rd := p_e f n (p_kt f n nm kn (p_w f n 8 (p_n f n 40 (p_w f n 7 (p_nn f n nm kn pm pn (p_u f n (4 ≤ pn) 5 s))))))
theorem p_pn_1 {f : Nat → Nat} {n kn pn : Nat} {nm pm : Nat → Nat} {s : rd} (h : (p_pn f n nm kn pm pn s).1 = 0) : pn < 4 ∧ nAt f n (0, s.2 + 1) ∧ (tq f n (s.2 + 3)).1 = 2 ∧ (tq f n (s.2 + 3)).2.2.2 ≤ 40 ∧ (∃ k, o_k f n nm kn (0, s.2 + 5) = some k ∧ k < kn) ∧ p_u f n (4 ≤ pn) 5 s = (0, s.2 + 1) ∧ p_nn f n nm kn pm pn (0, s.2 + 1) = (0, s.2 + 2) ∧ p_w f n 7 (0, s.2 + 2) = (0, s.2 + 3) ∧ p_n f n 40 (0, s.2 + 3) = (0, s.2 + 4) ∧ p_w f n 8 (0, s.2 + 4) = (0, s.2 + 5) ∧ p_pn f n nm kn pm pn s = (0, s.2 + 7) := by
  unfold p_pn at h ⊢
  have a1 := p_e_1 h
  have a2 := p_kt_1 a1.1
  have a3 := p_w_1 a2.1.1
  have a4 := p_n_1 a3.1
  have a5 := p_w_1 a4.1
  have a6 := p_nn_1 a5.1
  have a7 := p_u_1 (by omega) a6.1.1
  rw [a7.2] at a1 a2 a3 a4 a5 a6 h ⊢
  rw [a6.2.2.2] at a1 a2 a3 a4 a5 h ⊢
  rw [a5.2.2] at a1 a2 a3 a4 h ⊢
  rw [a4.2.2.2] at a1 a2 a3 h ⊢
  rw [a3.2.2] at a1 a2 h ⊢
  rw [a2.2.2] at a1 h ⊢
  exact ⟨Nat.lt_of_not_le a7.1, a6.1, a4.2.1, a4.2.2.1, a2.2.1, rfl, rfl, rfl, rfl, rfl, a1.2.2⟩
theorem q_Reader_readPerson {f : Nat → Nat} {n t kn pn : Nat} {nm pm : Nat → Nat} {s : rd} (h : hs_Rd I J R f n s) (h0 : s.1 = 0) (hN : hs_Net R t) (hSt : hs_St R (t + 11)) (hn : hs_Nn I J t kn nm pn pm) : hn_F 4 hm_Reader_readPerson [.ref 3, .ref t] (I, J, R) (fun r D' => r = none ∧ ∃ I2 J2 R2, hs_rf I J R I2 J2 R2 ∧ hs_Rd I2 J2 R2 f n (p_pn f n nm kn pm pn s) ∧ D' = (if (p_pn f n nm kn pm pn s).1 = 0 then (hn_u (hn_u (hn_u I2 (t + 11 + 2) pn (nI (tq f n (s.2 + 3)).2.2.2)) (t + 11 + 3) pn (oI (o_k f n nm kn (0, s.2 + 5)))) (t + 11) 4 (nI (pn + 1)), hn_u J2 (t + 5) pn (nJ (tq f n (s.2 + 1)).2.2.2), R2) else (I2, J2, R2))) := by
  refine hn_F_of _ hk_Reader_readPerson rfl (Nat.le_of_ble_eq_true rfl) ?_
  have hka := hN.2.1
  have hSk := hSt.2.1
  have hN8 : R t 8 = some (t + 11) := by obtain ⟨tt5, tn0, tn1, tn2, tn3, tn4, tn5, tn6, tn7, tn8, tn9, tn10, ts1, ts2, ts3, ts4, ts5, ts7, ts8, tl⟩ := hN; exact ts8
  have hk8 := hn.2.2.2.2.1
  have ht4 := hN.1
  obtain ⟨P, hP⟩ : ∃ P : Option Value → hnD → Prop, P = (fun r D' => r = none ∧ ∃ I2 J2 R2, hs_rf I J R I2 J2 R2 ∧ hs_Rd I2 J2 R2 f n (p_pn f n nm kn pm pn s) ∧ D' = (if (p_pn f n nm kn pm pn s).1 = 0 then (hn_u (hn_u (hn_u I2 (t + 11 + 2) pn (nI (tq f n (s.2 + 3)).2.2.2)) (t + 11 + 3) pn (oI (o_k f n nm kn (0, s.2 + 5)))) (t + 11) 4 (nI (pn + 1)), hn_u J2 (t + 5) pn (nJ (tq f n (s.2 + 1)).2.2.2), R2) else (I2, J2, R2))) := ⟨_, rfl⟩
  rw [← hP]
  have S17 : ∀ b, fg (4 ≤ pn) b → hn_B 4 hm_Reader_readPerson P 17 [.ref 3, .ref t, .null, .null, .null, .null] [.int b, .ref 3] (I, J, R) := by
    intro b hb
    refine b_iconst rfl ?_
    refine b_callV rfl rfl hk_Reader_takeUnless rfl rfl rfl (by first | rfl | assumption) rfl (Nat.le_of_ble_eq_true rfl) (q_Reader_takeUnless (c := 5) h h0 hb (by omega)) (Nat.le_of_ble_eq_true rfl) (fun r_18 D_18 q_18 => ?_)
    obtain ⟨rfl, I1, J1, R1, rfl, g1, k1⟩ := q_18
    refine b_aload_n rfl rfl ?_
    refine b_aload_n rfl rfl ?_
    refine b_callV rfl rfl hk_Reader_takeNewName rfl rfl rfl (by first | rfl | assumption) rfl (Nat.le_of_ble_eq_true rfl) (q_Reader_takeNewName k1 (hs_Net_rf hN g1) (hs_St_rf hSt g1) (hs_Nn_rf hn ht4 g1)) (Nat.le_of_ble_eq_true rfl) (fun r_23 D_23 q_23 => ?_)
    obtain ⟨v, rfl, hv, I2, J2, R2, rfl, g2, k2⟩ := q_23
    refine b_lstore_n rfl (Nat.le_of_ble_eq_true rfl) ?_
    refine b_aload_n rfl rfl ?_
    refine b_getsW rfl ?_
    refine b_callV rfl rfl hk_Reader_takeWord rfl rfl rfl (by first | rfl | assumption) rfl (Nat.le_of_ble_eq_true rfl) (q_Reader_takeWord (w := 7) k2 (by omega)) (Nat.le_of_ble_eq_true rfl) (fun r_31 D_31 q_31 => ?_)
    obtain ⟨rfl, I3, J3, R3, rfl, g3, k3⟩ := q_31
    refine b_aload_n rfl rfl ?_
    refine b_bipush rfl ?_
    refine b_callV rfl rfl hk_Reader_takeNumber rfl rfl rfl (by first | rfl | assumption) rfl (Nat.le_of_ble_eq_true rfl) (q_Reader_takeNumber (m := 40) k3 (by omega)) (Nat.le_of_ble_eq_true rfl) (fun r_37 D_37 q_37 => ?_)
    obtain ⟨hd, rfl, hhd, I4, J4, R4, rfl, g4, k4⟩ := q_37
    refine b_istore rfl (Nat.le_of_ble_eq_true rfl) ?_
    refine b_aload_n rfl rfl ?_
    refine b_getsW rfl ?_
    refine b_callV rfl rfl hk_Reader_takeWord rfl rfl rfl (by first | rfl | assumption) rfl (Nat.le_of_ble_eq_true rfl) (q_Reader_takeWord (w := 8) k4 (by omega)) (Nat.le_of_ble_eq_true rfl) (fun r_46 D_46 q_46 => ?_)
    obtain ⟨rfl, I5, J5, R5, rfl, g5, k5⟩ := q_46
    have g15 := hs_rf_t (hs_rf_t (hs_rf_t (hs_rf_t g1 g2) g3) g4) g5
    refine b_aload_n rfl rfl ?_
    refine b_aload_n rfl rfl ?_
    refine b_callV rfl rfl hk_Reader_takeKnot rfl rfl rfl (by first | rfl | assumption) rfl (Nat.le_of_ble_eq_true rfl) (q_Reader_takeKnot k5 (hs_Net_rf hN g15) (hs_Nn_rf hn ht4 g15)) (Nat.le_of_ble_eq_true rfl) (fun r_51 D_51 q_51 => ?_)
    obtain ⟨rfl, I6, J6, R6, rfl, g6, k6⟩ := q_51
    refine b_istore rfl (Nat.le_of_ble_eq_true rfl) ?_
    refine b_aload_n rfl rfl ?_
    refine b_callV rfl rfl hk_Reader_takeEnd rfl rfl rfl (by first | rfl | assumption) rfl (Nat.le_of_ble_eq_true rfl) (q_Reader_takeEnd k6) (Nat.le_of_ble_eq_true rfl) (fun r_57 D_57 q_57 => ?_)
    obtain ⟨rfl, I7, J7, R7, rfl, g7, k8⟩ := q_57
    have gg := hs_rf_t (hs_rf_t g15 g6) g7
    have k7 : hs_Rd I7 J7 R7 f n (p_pn f n nm kn pm pn s) := k8
    have e6 := k7.2.2.2.2.1
    have b6 := k7.2.2.2.2.2
    refine b_aload_n rfl rfl ?_
    refine b_getI rfl (by first | rfl | assumption) rfl ?_
    rw [e6]
    refine b_if_ne rfl (fun c_64 => ?_) (fun c_64 => ?_)
    · exact b_return_ rfl trivial ((by rw [hP]; first | exact ⟨rfl, _, _, _, gg, k7, by rw [if_pos hz, v1, v3, v4]⟩ | exact ⟨rfl, _, _, _, gg, k7, by rw [if_neg (fun z => c_64 (by rw [z]; rfl))]⟩))
    · have hz := (hi_nIe (i := (p_pn f n nm kn pm pn s).1) (k := 0) (by omega) (by omega)).mp c_64
      have hl := p_pn_1 hz
      refine b_aload_n rfl rfl ?_
      refine b_lload_n rfl rfl ?_
      refine b_iload rfl rfl ?_
      refine b_iload rfl rfl ?_
      refine b_callV rfl rfl hk_Net_addPerson rfl rfl rfl (by first | rfl | assumption) rfl (Nat.le_of_ble_eq_true rfl) (q_Net_addPerson (hs_Net_rf hN gg) (hs_St_rf hSt gg) (hs_Nn_rf hn ht4 gg).2.2.2.1 hl.1) (Nat.le_of_ble_eq_true rfl) (fun r_73 D_73 q_73 => ?_)
      obtain ⟨rfl, rfl⟩ := q_73
      rw [hl.2.2.2.2.2.1] at hv hhd
      rw [hl.2.2.2.2.2.2.1, hl.2.2.2.2.2.2.2.1] at hhd
      have v1 := hv hl.2.1
      have v3 := hhd rfl hl.2.2.1
      have v4 : p_w f n 8 (p_n f n 40 (p_w f n 7 (p_nn f n nm kn pm pn (p_u f n (4 ≤ pn) 5 s)))) = (0, s.2 + 5) := by rw [hl.2.2.2.2.2.1, hl.2.2.2.2.2.2.1, hl.2.2.2.2.2.2.2.1, hl.2.2.2.2.2.2.2.2.1, hl.2.2.2.2.2.2.2.2.2.1]
      exact b_return_ rfl trivial ((by rw [hP]; first | exact ⟨rfl, _, _, _, gg, k7, by rw [if_pos hz, v1, v3, v4]⟩ | exact ⟨rfl, _, _, _, gg, k7, by rw [if_neg (fun z => c_64 (by rw [z]; rfl))]⟩))
  have hlt : nI pn < 4 ↔ pn < 4 := nI_lt_c (k := 4) (by omega) (by omega)
  refine b_aload_n rfl rfl ?_
  refine b_aload_n rfl rfl ?_
  refine b_getR rfl (by first | rfl | assumption) rfl (by assumption) ?_
  refine b_getI rfl (by first | rfl | assumption) rfl ?_
  rw [hn.2.2.2.1]
  refine b_iconst rfl ?_
  refine b_icmp_lt rfl (fun c_9 => ?_) (fun c_9 => ?_)
  · refine b_iconst rfl ?_
    first | exact S17 1 (Or.inl ⟨Nat.le_of_not_lt (fun z => c_9 (hlt.mpr z)), rfl⟩) | exact S17 0 (Or.inr ⟨fun z => absurd (hlt.mp c_9) (Nat.not_lt.mpr z), rfl⟩)
  · refine b_iconst rfl ?_
    refine b_goto rfl ?_
    first | exact S17 1 (Or.inl ⟨Nat.le_of_not_lt (fun z => c_9 (hlt.mpr z)), rfl⟩) | exact S17 0 (Or.inr ⟨fun z => absurd (hlt.mp c_9) (Nat.not_lt.mpr z), rfl⟩)
end HNreadperson
