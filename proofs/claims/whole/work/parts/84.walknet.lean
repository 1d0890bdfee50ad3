section HNwalknet
variable {I I' : Nat → Nat → Int32} {J J' : Nat → Nat → Int64} {R R' : Nat → Nat → Option Nat}
theorem q_Reader_readNet {f : Nat → Nat} {n t : Nat} (hR1 : R 1 0 = some 2) (hR3 : R 3 0 = some 1) (hSg : hs_Sg I f n) (h1 : I 1 1 = nI n) (hN : hs_Net R t) (hSt : hs_St R (t + 11)) (hz : hs_zn I t) : hn_F 5 hm_Reader_readNet [.ref 3, .ref t] (I, J, R) (fun r D' => r = some (.int (nI (p_net f n 1001 ((0, 0), b_0)).1.1)) ∧ ∃ I2 J2 R2, D' = (I2, J2, R2) ∧ hs_rn I J R I2 J2 R2 t ∧ hs_Rd I2 J2 R2 f n (p_net f n 1001 ((0, 0), b_0)).1 ∧ hs_zn I2 t ∧ ((p_net f n 1001 ((0, 0), b_0)).1.1 = 0 → hs_Bx I2 J2 t (p_net f n 1001 ((0, 0), b_0)).2 ∧ hs_Bw (p_net f n 1001 ((0, 0), b_0)).2)) := by
  refine hn_F_of _ hk_Reader_readNet rfl (Nat.le_of_ble_eq_true rfl) ?_
  have hka := hN.2.1
  have ht := hN.1
  obtain ⟨Z, hZ⟩ : ∃ Z, Z = p_net f n 1001 ((0, 0), b_0) := ⟨_, rfl⟩
  rw [← hZ]
  obtain ⟨P, hP⟩ : ∃ P : Option Value → hnD → Prop, P = (fun r D' => r = some (.int (nI Z.1.1)) ∧ ∃ I2 J2 R2, D' = (I2, J2, R2) ∧ hs_rn I J R I2 J2 R2 t ∧ hs_Rd I2 J2 R2 f n Z.1 ∧ hs_zn I2 t ∧ (Z.1.1 = 0 → hs_Bx I2 J2 t Z.2 ∧ hs_Bw Z.2)) := ⟨_, rfl⟩
  rw [← hP]
  have S173 : ∀ (x : rd × sp_B) (I1 : Nat → Nat → Int32) (J1 : Nat → Nat → Int64) (R1 : Nat → Nat → Option Nat) (v : Value), hs_rn I J R I1 J1 R1 t → hs_Rd I1 J1 R1 f n x.1 → hs_zn I1 t → (x.1.1 = 0 → hs_Bx I1 J1 t x.2 ∧ hs_Bw x.2) → Z = x → hn_B 5 hm_Reader_readNet P 173 [.ref 3, .ref t, v] [] (I1, J1, R1) := by
    intro x I1 J1 R1 v g1 k1 z1 b1 hx
    refine b_aload_n rfl rfl ?_
    refine b_getI rfl (by first | rfl | assumption) rfl ?_
    rw [k1.2.2.2.2.1]
    exact b_ireturn rfl trivial ((by rw [hP, hx]; exact ⟨rfl, I1, J1, R1, rfl, g1, k1, z1, b1⟩))
  have lp : ∀ (x : rd × sp_B) (I1 : Nat → Nat → Int32) (J1 : Nat → Nat → Int64) (R1 : Nat → Nat → Option Nat), hs_rn I J R I1 J1 R1 t → hs_Rd I1 J1 R1 f n x.1 → hs_zn I1 t → (x.1.1 = 0 → hs_Bx I1 J1 t x.2 ∧ hs_Bw x.2) → Z = p_net f n (1001 - 0) x → hn_B 5 hm_Reader_readNet P 18 [.ref 3, .ref t, .int (nI 0)] [] (I1, J1, R1) := by
    refine sp_ind 1001 (fun i => ∀ (x : rd × sp_B) (I1 : Nat → Nat → Int32) (J1 : Nat → Nat → Int64) (R1 : Nat → Nat → Option Nat), hs_rn I J R I1 J1 R1 t → hs_Rd I1 J1 R1 f n x.1 → hs_zn I1 t → (x.1.1 = 0 → hs_Bx I1 J1 t x.2 ∧ hs_Bw x.2) → Z = p_net f n (1001 - i) x → hn_B 5 hm_Reader_readNet P 18 [.ref 3, .ref t, .int (nI i)] [] (I1, J1, R1)) ?_ ?_
    · intro x I1 J1 R1 g1 k1 z1 b1 hx
      refine b_iload_n rfl rfl ?_
      refine b_sipush rfl ?_
      refine b_icmp_gt rfl (fun c_22 => ?_) (fun c_22 => ?_)
      · exact S173 x I1 J1 R1 _ g1 k1 z1 b1 hx
      · exact absurd (show (1000 : Int32) < nI 1001 by decide) c_22
    · intro i hi ih x I1 J1 R1 g1 k1 z1 b1 hx
      obtain ⟨m, hm, hm2⟩ : ∃ m, 1001 - i = m + 1 ∧ 1001 - (i + 1) = m := ⟨1000 - i, by omega, by omega⟩
      rw [hm] at hx
      rw [hm2] at ih
      have i1000 : (1000 : Int32) < nI i ↔ 1000 < i := nI_lt_c (c := 1000) (by omega) (by omega)
      obtain ⟨s, B⟩ := x
      have k1 : hs_Rd I1 J1 R1 f n s := k1
      have b1 : s.1 = 0 → hs_Bx I1 J1 t B ∧ hs_Bw B := b1
      have f1 := k1.2.2.2.2.1
      have f2 := k1.2.2.2.2.2
      have r30 := k1.2.1
      have h5 := k1.2.2.2.1.2.2.2.2.1
      have h4 := k1.2.2.2.1.2.2.2.1
      have hp := tq_le f n s.2
      have hwx := wx_lt (tq f n s.2)
      have hu : p_net f n (m + 1) (s, B) = if s.1 = 0 ∧ ¬ (tq f n s.2).1 = 0 then p_net f n m (p_ln f n (s, B)) else (s, B) := rfl
      rw [hu] at hx
      by_cases hc0 : s.1 = 0
      · by_cases hc1 : (tq f n s.2).1 = 0
        · rw [if_neg (fun z => z.2 hc1)] at hx
          refine b_iload_n rfl rfl ?_
          refine b_sipush rfl ?_
          refine b_icmp_gt rfl (fun c_22 => ?_) (fun c_22 => ?_)
          · exact absurd (i1000.mp c_22) (by omega)
          · refine b_aload_n rfl rfl ?_
            refine b_getI rfl (by first | rfl | assumption) rfl ?_
            rw [f1, hc0]
            refine b_if_ne rfl (fun c_29 => ?_) (fun c_29 => ?_)
            · exact absurd rfl c_29
            · refine b_aload_n rfl rfl ?_
              refine b_getR rfl (by first | rfl | assumption) rfl (by assumption) ?_
              refine b_getI rfl (by first | rfl | assumption) rfl ?_
              rw [h4, hc1]
              refine b_if_eq rfl (fun c_39 => ?_) (fun c_39 => ?_)
              · exact S173 (s, B) I1 J1 R1 _ g1 k1 z1 b1 hx
              · exact absurd rfl c_39
        · rw [if_pos ⟨hc0, hc1⟩] at hx
          obtain ⟨bx, bw⟩ := b1 hc0
          have hN1 := hs_Net_R hN g1.2.2.1
          have hSt1 : hs_St R1 (t + 11) := by
            obtain ⟨sa, sk0, sk1, sk2, sk3, sk4, g0, q1, q2, q3⟩ := hSt
            unfold hs_St
            rw [g1.2.2.1 (t + 11) (by omega)]
            exact ⟨sa, sk0, sk1, sk2, sk3, sk4, g0, q1, q2, q3⟩
          have sk0 := hSt.2.1
          have sk1 := hSt.2.2.1
          have q0 : R1 (t + 11) 0 = some (t + 11 + 1) := hSt1.2.2.2.2.2.2.1
          have tn4 : hn_kind (t + 4) = (1, 8) := hN.2.2.2.2.2.1
          have ts4 : R1 t 4 = some (t + 4) := hN1.2.2.2.2.2.2.2.2.2.2.2.2.2.2.2.1
          have ts8 : R1 t 8 = some (t + 11) := hN1.2.2.2.2.2.2.2.2.2.2.2.2.2.2.2.2.2.2.1
          have S167 : ∀ D2, hs_La I1 J1 R1 t f n (p_ln f n (s, B)) D2 → hn_B 5 hm_Reader_readNet P 167 [.ref 3, .ref t, .int (nI i)] [] D2 := by
            intro D2 hq
            obtain ⟨I2, J2, R2, rfl, g2, k2, z2, b2⟩ := hq
            refine b_iinc rfl rfl (Nat.le_of_ble_eq_true rfl) ?_
            refine b_goto rfl ?_
            exact b_lp (ih (p_ln f n (s, B)) I2 J2 R2 (hs_rn_t g1 g2) k2 z2 b2 hx) (le_e (le_e (le_q (by rw [nI_succ]) le_0))) rfl rfl
          have S42 : hn_B 5 hm_Reader_readNet P 42 [.ref 3, .ref t, .int (nI i)] [] (I1, J1, R1) := by
            by_cases w2 : wx (tq f n s.2) = 2
            · refine b_aload_n rfl rfl ?_
              refine b_getR rfl (by first | rfl | assumption) rfl (by assumption) ?_
              refine b_getR rfl (by first | rfl | assumption) rfl (by assumption) ?_
              refine b_getsW rfl ?_
              refine b_acmp_ne rfl (by omega) (by omega) (fun c_52 => ?_) (fun c_52 => ?_)
              · exact absurd (show 5000 + wx (tq f n s.2) = 5002 by omega) c_52
              · refine b_aload_n rfl rfl ?_
                refine b_aload_n rfl rfl ?_
                refine b_callV rfl rfl hk_Reader_readKnot rfl rfl rfl (by first | rfl | assumption) rfl (Nat.le_of_ble_eq_true rfl) (ln_2 k1 hc0 hN1 hSt1 bx bw z1 w2) (Nat.le_of_ble_eq_true rfl) (fun r_57 D_57 q_57 => ?_)
                obtain ⟨rfl, hq⟩ := q_57
                refine b_goto rfl ?_
                exact S167 _ hq
            by_cases w4 : wx (tq f n s.2) = 4
            · refine b_aload_n rfl rfl ?_
              refine b_getR rfl (by first | rfl | assumption) rfl (by assumption) ?_
              refine b_getR rfl (by first | rfl | assumption) rfl (by assumption) ?_
              refine b_getsW rfl ?_
              refine b_acmp_ne rfl (by omega) (by omega) (fun c_52 => ?_) (fun c_52 => ?_)
              · refine b_aload_n rfl rfl ?_
                refine b_getR rfl (by first | rfl | assumption) rfl (by assumption) ?_
                refine b_getR rfl (by first | rfl | assumption) rfl (by assumption) ?_
                refine b_getsW rfl ?_
                refine b_acmp_ne rfl (by omega) (by omega) (fun c_73 => ?_) (fun c_73 => ?_)
                · exact absurd (show 5000 + wx (tq f n s.2) = 5004 by omega) c_73
                · refine b_aload_n rfl rfl ?_
                  refine b_aload_n rfl rfl ?_
                  refine b_aload_n rfl rfl ?_
                  refine b_getR rfl (by first | rfl | assumption) rfl (by assumption) ?_
                  refine b_getR rfl (by first | rfl | assumption) rfl (by assumption) ?_
                  refine b_bipush rfl ?_
                  refine b_callV rfl rfl hk_Reader_readPair rfl rfl rfl (by first | rfl | assumption) rfl (Nat.le_of_ble_eq_true rfl) (ln_4 k1 hc0 hN1 hSt1 bx bw z1 w2 w4) (Nat.le_of_ble_eq_true rfl) (fun r_87 D_87 q_87 => ?_)
                  obtain ⟨rfl, hq⟩ := q_87
                  refine b_goto rfl ?_
                  exact S167 _ hq
              · exact absurd (show wx (tq f n s.2) = 2 by omega) w2
            by_cases w5 : wx (tq f n s.2) = 5
            · refine b_aload_n rfl rfl ?_
              refine b_getR rfl (by first | rfl | assumption) rfl (by assumption) ?_
              refine b_getR rfl (by first | rfl | assumption) rfl (by assumption) ?_
              refine b_getsW rfl ?_
              refine b_acmp_ne rfl (by omega) (by omega) (fun c_52 => ?_) (fun c_52 => ?_)
              · refine b_aload_n rfl rfl ?_
                refine b_getR rfl (by first | rfl | assumption) rfl (by assumption) ?_
                refine b_getR rfl (by first | rfl | assumption) rfl (by assumption) ?_
                refine b_getsW rfl ?_
                refine b_acmp_ne rfl (by omega) (by omega) (fun c_73 => ?_) (fun c_73 => ?_)
                · refine b_aload_n rfl rfl ?_
                  refine b_getR rfl (by first | rfl | assumption) rfl (by assumption) ?_
                  refine b_getR rfl (by first | rfl | assumption) rfl (by assumption) ?_
                  refine b_getsW rfl ?_
                  refine b_acmp_ne rfl (by omega) (by omega) (fun c_103 => ?_) (fun c_103 => ?_)
                  · exact absurd (show 5000 + wx (tq f n s.2) = 5005 by omega) c_103
                  · refine b_aload_n rfl rfl ?_
                    refine b_aload_n rfl rfl ?_
                    refine b_aload_n rfl rfl ?_
                    refine b_getR rfl (by first | rfl | assumption) rfl (by assumption) ?_
                    refine b_bipush rfl ?_
                    refine b_callV rfl rfl hk_Reader_readPair rfl rfl rfl (by first | rfl | assumption) rfl (Nat.le_of_ble_eq_true rfl) (ln_5 k1 hc0 hN1 hSt1 bx bw z1 w2 w4 w5) (Nat.le_of_ble_eq_true rfl) (fun r_114 D_114 q_114 => ?_)
                    obtain ⟨rfl, hq⟩ := q_114
                    refine b_goto rfl ?_
                    exact S167 _ hq
                · exact absurd (show wx (tq f n s.2) = 4 by omega) w4
              · exact absurd (show wx (tq f n s.2) = 2 by omega) w2
            by_cases w6 : wx (tq f n s.2) = 6
            · refine b_aload_n rfl rfl ?_
              refine b_getR rfl (by first | rfl | assumption) rfl (by assumption) ?_
              refine b_getR rfl (by first | rfl | assumption) rfl (by assumption) ?_
              refine b_getsW rfl ?_
              refine b_acmp_ne rfl (by omega) (by omega) (fun c_52 => ?_) (fun c_52 => ?_)
              · refine b_aload_n rfl rfl ?_
                refine b_getR rfl (by first | rfl | assumption) rfl (by assumption) ?_
                refine b_getR rfl (by first | rfl | assumption) rfl (by assumption) ?_
                refine b_getsW rfl ?_
                refine b_acmp_ne rfl (by omega) (by omega) (fun c_73 => ?_) (fun c_73 => ?_)
                · refine b_aload_n rfl rfl ?_
                  refine b_getR rfl (by first | rfl | assumption) rfl (by assumption) ?_
                  refine b_getR rfl (by first | rfl | assumption) rfl (by assumption) ?_
                  refine b_getsW rfl ?_
                  refine b_acmp_ne rfl (by omega) (by omega) (fun c_103 => ?_) (fun c_103 => ?_)
                  · refine b_aload_n rfl rfl ?_
                    refine b_getR rfl (by first | rfl | assumption) rfl (by assumption) ?_
                    refine b_getR rfl (by first | rfl | assumption) rfl (by assumption) ?_
                    refine b_getsW rfl ?_
                    refine b_acmp_ne rfl (by omega) (by omega) (fun c_130 => ?_) (fun c_130 => ?_)
                    · exact absurd (show 5000 + wx (tq f n s.2) = 5006 by omega) c_130
                    · refine b_aload_n rfl rfl ?_
                      refine b_aload_n rfl rfl ?_
                      refine b_callV rfl rfl hk_Reader_readPerson rfl rfl rfl (by first | rfl | assumption) rfl (Nat.le_of_ble_eq_true rfl) (ln_6 k1 hc0 hN1 hSt1 bx bw z1 w2 w4 w5 w6) (Nat.le_of_ble_eq_true rfl) (fun r_135 D_135 q_135 => ?_)
                      obtain ⟨rfl, hq⟩ := q_135
                      refine b_goto rfl ?_
                      exact S167 _ hq
                  · exact absurd (show wx (tq f n s.2) = 5 by omega) w5
                · exact absurd (show wx (tq f n s.2) = 4 by omega) w4
              · exact absurd (show wx (tq f n s.2) = 2 by omega) w2
            by_cases w9 : wx (tq f n s.2) = 9
            · refine b_aload_n rfl rfl ?_
              refine b_getR rfl (by first | rfl | assumption) rfl (by assumption) ?_
              refine b_getR rfl (by first | rfl | assumption) rfl (by assumption) ?_
              refine b_getsW rfl ?_
              refine b_acmp_ne rfl (by omega) (by omega) (fun c_52 => ?_) (fun c_52 => ?_)
              · refine b_aload_n rfl rfl ?_
                refine b_getR rfl (by first | rfl | assumption) rfl (by assumption) ?_
                refine b_getR rfl (by first | rfl | assumption) rfl (by assumption) ?_
                refine b_getsW rfl ?_
                refine b_acmp_ne rfl (by omega) (by omega) (fun c_73 => ?_) (fun c_73 => ?_)
                · refine b_aload_n rfl rfl ?_
                  refine b_getR rfl (by first | rfl | assumption) rfl (by assumption) ?_
                  refine b_getR rfl (by first | rfl | assumption) rfl (by assumption) ?_
                  refine b_getsW rfl ?_
                  refine b_acmp_ne rfl (by omega) (by omega) (fun c_103 => ?_) (fun c_103 => ?_)
                  · refine b_aload_n rfl rfl ?_
                    refine b_getR rfl (by first | rfl | assumption) rfl (by assumption) ?_
                    refine b_getR rfl (by first | rfl | assumption) rfl (by assumption) ?_
                    refine b_getsW rfl ?_
                    refine b_acmp_ne rfl (by omega) (by omega) (fun c_130 => ?_) (fun c_130 => ?_)
                    · refine b_aload_n rfl rfl ?_
                      refine b_getR rfl (by first | rfl | assumption) rfl (by assumption) ?_
                      refine b_getR rfl (by first | rfl | assumption) rfl (by assumption) ?_
                      refine b_getsW rfl ?_
                      refine b_acmp_ne rfl (by omega) (by omega) (fun c_151 => ?_) (fun c_151 => ?_)
                      · exact absurd (show 5000 + wx (tq f n s.2) = 5009 by omega) c_151
                      · refine b_aload_n rfl rfl ?_
                        refine b_aload_n rfl rfl ?_
                        refine b_callV rfl rfl hk_Reader_readLulls rfl rfl rfl (by first | rfl | assumption) rfl (Nat.le_of_ble_eq_true rfl) (ln_9 k1 hc0 hN1 bx bw z1 w2 w4 w5 w6 w9) (Nat.le_of_ble_eq_true rfl) (fun r_156 D_156 q_156 => ?_)
                        obtain ⟨rfl, hq⟩ := q_156
                        refine b_goto rfl ?_
                        exact S167 _ hq
                    · exact absurd (show wx (tq f n s.2) = 6 by omega) w6
                  · exact absurd (show wx (tq f n s.2) = 5 by omega) w5
                · exact absurd (show wx (tq f n s.2) = 4 by omega) w4
              · exact absurd (show wx (tq f n s.2) = 2 by omega) w2
            refine b_aload_n rfl rfl ?_
            refine b_getR rfl (by first | rfl | assumption) rfl (by assumption) ?_
            refine b_getR rfl (by first | rfl | assumption) rfl (by assumption) ?_
            refine b_getsW rfl ?_
            refine b_acmp_ne rfl (by omega) (by omega) (fun c_52 => ?_) (fun c_52 => ?_)
            · refine b_aload_n rfl rfl ?_
              refine b_getR rfl (by first | rfl | assumption) rfl (by assumption) ?_
              refine b_getR rfl (by first | rfl | assumption) rfl (by assumption) ?_
              refine b_getsW rfl ?_
              refine b_acmp_ne rfl (by omega) (by omega) (fun c_73 => ?_) (fun c_73 => ?_)
              · refine b_aload_n rfl rfl ?_
                refine b_getR rfl (by first | rfl | assumption) rfl (by assumption) ?_
                refine b_getR rfl (by first | rfl | assumption) rfl (by assumption) ?_
                refine b_getsW rfl ?_
                refine b_acmp_ne rfl (by omega) (by omega) (fun c_103 => ?_) (fun c_103 => ?_)
                · refine b_aload_n rfl rfl ?_
                  refine b_getR rfl (by first | rfl | assumption) rfl (by assumption) ?_
                  refine b_getR rfl (by first | rfl | assumption) rfl (by assumption) ?_
                  refine b_getsW rfl ?_
                  refine b_acmp_ne rfl (by omega) (by omega) (fun c_130 => ?_) (fun c_130 => ?_)
                  · refine b_aload_n rfl rfl ?_
                    refine b_getR rfl (by first | rfl | assumption) rfl (by assumption) ?_
                    refine b_getR rfl (by first | rfl | assumption) rfl (by assumption) ?_
                    refine b_getsW rfl ?_
                    refine b_acmp_ne rfl (by omega) (by omega) (fun c_151 => ?_) (fun c_151 => ?_)
                    · refine b_aload_n rfl rfl ?_
                      refine b_iconst rfl ?_
                      refine b_callV rfl rfl hk_Reader_fail rfl rfl rfl (by first | rfl | assumption) rfl (Nat.le_of_ble_eq_true rfl) (ln_n (B := B) k1 hc0 ht z1 w2 w4 w5 w6 w9) (Nat.le_of_ble_eq_true rfl) (fun r_164 D_164 q_164 => ?_)
                      obtain ⟨rfl, hq⟩ := q_164
                      exact S167 _ hq
                    · exact absurd (show wx (tq f n s.2) = 9 by omega) w9
                  · exact absurd (show wx (tq f n s.2) = 6 by omega) w6
                · exact absurd (show wx (tq f n s.2) = 5 by omega) w5
              · exact absurd (show wx (tq f n s.2) = 4 by omega) w4
            · exact absurd (show wx (tq f n s.2) = 2 by omega) w2
          refine b_iload_n rfl rfl ?_
          refine b_sipush rfl ?_
          refine b_icmp_gt rfl (fun c_22 => ?_) (fun c_22 => ?_)
          · exact absurd (i1000.mp c_22) (by omega)
          · refine b_aload_n rfl rfl ?_
            refine b_getI rfl (by first | rfl | assumption) rfl ?_
            rw [f1, hc0]
            refine b_if_ne rfl (fun c_29 => ?_) (fun c_29 => ?_)
            · exact absurd rfl c_29
            · refine b_aload_n rfl rfl ?_
              refine b_getR rfl (by first | rfl | assumption) rfl (by assumption) ?_
              refine b_getI rfl (by first | rfl | assumption) rfl ?_
              rw [h4]
              refine b_if_eq rfl (fun c_39 => ?_) (fun c_39 => ?_)
              · exact absurd ((hi_nIe (k := 0) (by omega) (by omega)).mp c_39) hc1
              · exact S42
      · rw [if_neg (fun z => hc0 z.1)] at hx
        refine b_iload_n rfl rfl ?_
        refine b_sipush rfl ?_
        refine b_icmp_gt rfl (fun c_22 => ?_) (fun c_22 => ?_)
        · exact absurd (i1000.mp c_22) (by omega)
        · refine b_aload_n rfl rfl ?_
          refine b_getI rfl (by first | rfl | assumption) rfl ?_
          rw [f1]
          refine b_if_ne rfl (fun c_29 => ?_) (fun c_29 => ?_)
          · exact S173 (s, B) I1 J1 R1 _ g1 k1 z1 b1 hx
          · exact absurd ((hi_nIe (k := 0) (by omega) (by omega)).mp c_29) hc0
  refine b_aload_n rfl rfl ?_
  refine b_callV rfl rfl hk_Net_clear rfl rfl rfl (by first | rfl | assumption) rfl (Nat.le_of_ble_eq_true rfl) (q_Net_clear hN hSt) (Nat.le_of_ble_eq_true rfl) (fun r_1 D_1 q_1 => ?_)
  obtain ⟨rfl, I1, rfl, hnc⟩ := q_1
  obtain ⟨x0, w0, z0⟩ := hs_Bx_0 (J := J) hz hnc
  obtain ⟨I2, hI2⟩ : ∃ z, z = hn_u I1 3 1 0 := ⟨_, rfl⟩
  have f0 : ∀ b, b ≠ 3 → I2 b = I1 b := fun b hb => by rw [hI2, hn_u_ne _ _ _ hb]
  have f1 : ∀ b, b < t ∨ t + 15 < b → I1 b = I b := hnc.1
  refine b_aload_n rfl rfl ?_
  refine b_iconst rfl ?_
  refine b_putI rfl (by first | rfl | assumption) rfl rfl ⟨rfl, rfl⟩ ?_
  rw [← hI2]
  refine b_aload_n rfl rfl ?_
  refine b_getR rfl (by first | rfl | assumption) rfl (by assumption) ?_
  refine b_callV rfl rfl hk_Tape_begin rfl rfl rfl (by first | rfl | assumption) rfl (Nat.le_of_ble_eq_true rfl) (q_Tape_begin (f := f) (n := n) hR1 ⟨hSg.1, fun i hi => by rw [f0 2 (by omega), f1 2 (by omega)]; exact hSg.2 i hi⟩ (by rw [f0 1 (by omega), f1 1 (by omega)]; exact h1)) (Nat.le_of_ble_eq_true rfl) (fun r_13 D_13 q_13 => ?_)
  obtain ⟨rfl, I3, J3, R3, rfl, g3, k3⟩ := q_13
  refine b_iconst rfl ?_
  refine b_istore_n rfl (Nat.le_of_ble_eq_true rfl) ?_
  exact b_lp (lp ((0, 0), b_0) I3 J3 R3 ⟨fun b b1 b3 bt => by rw [g3.1 b b1, f0 b b3, f1 b bt], fun b b1 _ _ => g3.2.1 b b1, g3.2.2⟩ ⟨by rw [g3.2.2.2 0 (by omega)]; exact hR1, by rw [g3.2.2.1 3 (by omega)]; exact hR3, ⟨hSg.1, fun i hi => by rw [g3.1 2 (by omega), f0 2 (by omega), f1 2 (by omega)]; exact hSg.2 i hi⟩, k3, by rw [g3.1 3 (by omega), hI2, hn_u_eq, va_up, if_pos rfl]; rfl, by show 0 < 20000; omega⟩ (hs_zn_c z0 (fun b h1 h2 _ _ _ _ => by rw [g3.1 b (by omega), f0 b (by omega)])) (fun _ => ⟨hs_Bx_c x0 (fun b h1 h2 => by rw [g3.1 b (by omega), f0 b (by omega)]) (g3.2.1 _ (by omega)) (g3.2.1 _ (by omega)), w0⟩) hZ) (le_e (le_e (le_q (by rfl) le_0))) rfl rfl
end HNwalknet
