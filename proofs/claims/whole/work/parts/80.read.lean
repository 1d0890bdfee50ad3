section HNread
variable {I I' : Nat → Nat → Int32} {J J' : Nat → Nat → Int64} {R R' : Nat → Nat → Option Nat}
def l_cl (s : lst) : lst := ((l_cb s.1 s.2.1 s.2.2.2).1, (l_cb s.1 s.2.1 s.2.2.2).2.1, s.2.2.1 - 1, (l_cb s.1 s.2.1 s.2.2.2).2.2)
/-- a law read, token by token: its fault, the token it stands at, what is left -/
def l_rd (T : Nat → tk) : Nat → Nat → Bool → lst → Nat × Nat × lst
  | 0, k, _, s => (1, k, s)
  | m + 1, k, true, s => if pt (T k) = -1 then (1, k, s) else if 5 ≤ s.2.1 then (5, k, s) else l_rd T m (k + 1) (decide (pt (T k) = 10004 ∨ pt (T k) = 10012)) (l_tp (pt (T k)) s)
  | m + 1, k, false, s => if s.2.2.1 = 0 ∧ p_isS (T k) 59 then (0, k, (st_s 1 s.1 s.2.2.2).1, s.2.1, s.2.2.1, (st_s 1 s.1 s.2.2.2).2)
    else if p_isS (T k) 41 then (if s.2.2.1 = 0 then (1, k, s) else l_rd T m (k + 1) false (l_cl s))
    else if l_to (lu_op (T k)) s then l_rd T m (k + 1) true (l_to1 (lu_op (T k)) s) else (1, k, l_to1 (lu_op (T k)) s)
def b01 (d : Bool) : Int32 := if d = true then 1 else 0
theorem fg_b {p : Prop} [Decidable p] {b : Int32} (h : fg p b) : b = b01 (decide p) := by
  rcases h with ⟨h, rfl⟩ | ⟨h, rfl⟩
  · unfold b01; rw [if_pos (decide_eq_true h)]
  · unfold b01; rw [if_neg (fun z => h (of_decide_eq_true z))]
/-- what the reading of a law may change -/
def hs_r3 (I : Nat → Nat → Int32) (J : Nat → Nat → Int64) (R : Nat → Nat → Option Nat) (I' : Nat → Nat → Int32) (J' : Nat → Nat → Int64) (R' : Nat → Nat → Option Nat) (t : Nat) : Prop := (∀ b, b ≠ 1 → b ≠ t + 6 → b ≠ t + 7 → b ≠ t + 8 → I' b = I b) ∧ (∀ b, b ≠ 1 → J' b = J b) ∧ (∀ b, b ≠ 1 → R' b = R b) ∧ ∀ i, i ≠ 5 → R' 1 i = R 1 i
theorem hs_Net_R {a : Nat} (h : hs_Net R a) (g : ∀ b, b ≠ 1 → R' b = R b) : hs_Net R' a := by
  obtain ⟨sa, h⟩ := h
  have e : R' a = R a := g a (by omega)
  have e6 : R' (a + 6) = R (a + 6) := g (a + 6) (by omega)
  unfold hs_Net
  rw [e, e6]
  exact ⟨sa, h⟩
theorem hs_Rd_l3 {f : Nat → Nat} {n t : Nat} {s : rd} (h : hs_Rd I J R f n s) (g : hs_l3 I I' t) (ht : t = 4 ∨ t = 20) : hs_Rd I' J R f n s := by
  obtain ⟨h1, h2, h3, h4, h5, h6⟩ := h
  refine ⟨h1, h2, ⟨h3.1, fun i hi => by rw [g 2 (by omega) (by omega) (by omega)]; exact h3.2 i hi⟩, ?_, by rw [g 3 (by omega) (by omega) (by omega)]; exact h5, h6⟩
  unfold hs_Tk
  rw [g 1 (by omega) (by omega) (by omega)]
  exact h4
theorem hs_Rd_adv {f : Nat → Nat} {n : Nat} {s : rd} (h : hs_Rd I J R f n s) (g : hs_tf I J R I' J' R') (hk : hs_Tk I' J' R' n (tok f n (tq f n s.2).2.2.1)) : hs_Rd I' J' R' f n (s.1, s.2 + 1) := by
  obtain ⟨h1, h2, h3, h4, h5, h6⟩ := h
  exact ⟨by rw [g.2.2.2 0 (by omega)]; exact h1, by rw [g.2.2.1 3 (by omega)]; exact h2, ⟨h3.1, fun i hi => by rw [g.1 2 (by omega)]; exact h3.2 i hi⟩, hk, by rw [g.1 3 (by omega)]; exact h5, h6⟩
theorem hs_Lu_tf {t : Nat} {w o : Int32} {W C : List Int32} (h : hs_Lu I t W w o C) (g : hs_tf I J R I' J' R') (ht : t = 4 ∨ t = 20) : hs_Lu I' t W w o C := by
  unfold hs_Lu
  rw [g.1 (t + 6) (by omega), g.1 (t + 7) (by omega), g.1 (t + 8) (by omega)]
  exact h
theorem q_Lulls_read {f : Nat → Nat} {n k0 t : Nat} (h : hs_Rd I J R f n (0, k0)) (hN : hs_Net R t) : hn_F 3 hm_Lulls_read [.ref (t + 6), .ref 1] (I, J, R) (fun r D' => r = some (.int (nI (l_rd (tq f n) 1001 k0 true ([], 0, 0, [])).1)) ∧ ∃ I2 J2 R2, D' = (I2, J2, R2) ∧ hs_r3 I J R I2 J2 R2 t ∧ hs_Rd I2 J2 R2 f n (0, (l_rd (tq f n) 1001 k0 true ([], 0, 0, [])).2.1) ∧ hs_Ls I2 t (l_rd (tq f n) 1001 k0 true ([], 0, 0, [])).2.2) := by
  refine hn_F_of _ hk_Lulls_read rfl (Nat.le_of_ble_eq_true rfl) ?_
  have hN0 := hN
  obtain ⟨tt5, tn0, tn1, tn2, tn3, tn4, tn5, tn6, tn7, tn8, tn9, tn10, ts1, ts2, ts3, ts4, ts5, ts7, ts8, tl0, tl2, tl6, tl7⟩ := hN
  obtain ⟨Z, hZ⟩ : ∃ Z, Z = l_rd (tq f n) 1001 k0 true ([], 0, 0, []) := ⟨_, rfl⟩
  rw [← hZ]
  obtain ⟨P, hP⟩ : ∃ P : Option Value → hnD → Prop, P = (fun r D' => r = some (.int (nI Z.1)) ∧ ∃ I2 J2 R2, D' = (I2, J2, R2) ∧ hs_r3 I J R I2 J2 R2 t ∧ hs_Rd I2 J2 R2 f n (0, Z.2.1) ∧ hs_Ls I2 t Z.2.2) := ⟨_, rfl⟩
  rw [← hP]
  have fin : ∀ (I1 : Nat → Nat → Int32) (J1 : Nat → Nat → Int64) (R1 : Nat → Nat → Option Nat) (c k : Nat) (s : lst), Z = (c, k, s) → hs_r3 I J R I1 J1 R1 t → hs_Rd I1 J1 R1 f n (0, k) → hs_Ls I1 t s → P (some (.int (nI c))) (I1, J1, R1) := by
    intro I1 J1 R1 c k s hz g1 k1 l1
    rw [hP, hz]
    exact ⟨rfl, I1, J1, R1, rfl, g1, k1, l1⟩
  have lp : ∀ (k : Nat) (d : Bool) (s : lst) (I1 : Nat → Nat → Int32) (J1 : Nat → Nat → Int64) (R1 : Nat → Nat → Option Nat), hs_r3 I J R I1 J1 R1 t → hs_Rd I1 J1 R1 f n (0, k) → hs_Ls I1 t s → Z = l_rd (tq f n) (1001 - 0) k d s → hn_B 3 hm_Lulls_read P 24 [.ref (t + 6), .ref 1, .int (b01 d), .int (nI 0), .null] [] (I1, J1, R1) := by
    refine sp_ind 1001 (fun i => ∀ (k : Nat) (d : Bool) (s : lst) (I1 : Nat → Nat → Int32) (J1 : Nat → Nat → Int64) (R1 : Nat → Nat → Option Nat), hs_r3 I J R I1 J1 R1 t → hs_Rd I1 J1 R1 f n (0, k) → hs_Ls I1 t s → Z = l_rd (tq f n) (1001 - i) k d s → hn_B 3 hm_Lulls_read P 24 [.ref (t + 6), .ref 1, .int (b01 d), .int (nI i), .null] [] (I1, J1, R1)) ?_ ?_
    · intro k d s I1 J1 R1 g1 k1 l1 hz
      refine b_iload_n rfl rfl ?_
      refine b_sipush rfl ?_
      refine b_icmp_gt rfl (fun c_28 => ?_) (fun c_28 => ?_)
      · refine b_iconst rfl ?_
        exact b_ireturn rfl trivial ((fin I1 J1 R1 1 k s hz g1 k1 l1))
      · exact absurd (show (1000 : Int32) < nI 1001 by decide) c_28
    · intro i hi ih k d s I1 J1 R1 g1 k1 l1 hz
      obtain ⟨m, hm, hm2⟩ : ∃ m, 1001 - i = m + 1 ∧ 1001 - (i + 1) = m := ⟨1000 - i, by omega, by omega⟩
      rw [hm] at hz
      rw [hm2] at ih
      have i1000 : (1000 : Int32) < nI i ↔ 1000 < i := nI_lt_c (c := 1000) (by omega) (by omega)
      have hN1 := hs_Net_R hN0 g1.2.2.1
      have hp := tq_le f n k
      have hv := tq_v k1.2.2.1 k
      have hk := k1.2.2.2.1
      have S132 : ∀ (d2 : Bool) (s2 : lst) (I2 : Nat → Nat → Int32) (x : Value), hs_l3 I1 I2 t → hs_Ls I2 t s2 → Z = l_rd (tq f n) m (k + 1) d2 s2 → hn_B 3 hm_Lulls_read P 132 [.ref (t + 6), .ref 1, .int (b01 d2), .int (nI i), x] [] (I2, J1, R1) := by
        intro d2 s2 I2 x g2 l2 hz2
        have k2 := hs_Rd_l3 k1 g2 tt5
        refine b_aload_n rfl rfl ?_
        refine b_callV rfl rfl hk_Tape_advance rfl rfl rfl (by first | rfl | assumption) rfl (Nat.le_of_ble_eq_true rfl) (q_Tape_advance (f := f) k2.1 k2.2.2.1 k2.2.2.2.1.1 k2.2.2.2.1.2.2.1 hp.1) (Nat.le_of_ble_eq_true rfl) (fun r_133 D_133 q_133 => ?_)
        obtain ⟨rfl, I3, J3, R3, rfl, g3, k3⟩ := q_133
        refine b_iinc rfl rfl (Nat.le_of_ble_eq_true rfl) ?_
        refine b_goto rfl ?_
        exact b_lp (ih (k + 1) d2 s2 I3 J3 R3 ⟨fun b b1 b6 b7 b8 => by rw [g3.1 b b1, g2 b b6 b7 b8, g1.1 b b1 b6 b7 b8], fun b b1 => by rw [g3.2.1 b b1, g1.2.1 b b1], fun b b1 => by rw [g3.2.2.1 b b1, g1.2.2.1 b b1], fun j hj => by rw [g3.2.2.2 j hj, g1.2.2.2 j hj]⟩ (hs_Rd_adv k2 g3 k3) (hs_Lu_tf l2 g3 tt5) hz2) (le_e (le_e (le_e (le_q (by rw [nI_succ]) (le_n le_0))))) rfl rfl
      cases d with
      | true =>
        have hu : l_rd (tq f n) (m + 1) k true s = if pt (tq f n k) = -1 then (1, k, s) else if 5 ≤ s.2.1 then (5, k, s) else l_rd (tq f n) m (k + 1) (decide (pt (tq f n k) = 10004 ∨ pt (tq f n k) = 10012)) (l_tp (pt (tq f n k)) s) := rfl
        rw [hu] at hz
        by_cases c1 : pt (tq f n k) = -1
        · rw [if_pos c1] at hz
          refine b_iload_n rfl rfl ?_
          refine b_sipush rfl ?_
          refine b_icmp_gt rfl (fun c_28 => ?_) (fun c_28 => ?_)
          · exact absurd (i1000.mp c_28) (by omega)
          · refine b_iload_n rfl rfl ?_
            refine b_if_eq rfl (fun c_32 => ?_) (fun c_32 => ?_)
            · exact absurd c_32 (by decide)
            · refine b_aload_n rfl rfl ?_
              refine b_callS rfl rfl hk_Lulls_partOf rfl rfl rfl (Nat.le_of_ble_eq_true rfl) (q_Lulls_partOf hk hp.2.2 hv.2.2) (Nat.le_of_ble_eq_true rfl) (fun r_36 D_36 q_36 => ?_)
              obtain ⟨rfl, rfl⟩ := q_36
              refine b_istore rfl (Nat.le_of_ble_eq_true rfl) ?_
              refine b_iload rfl rfl ?_
              refine b_iconst rfl ?_
              refine b_icmp_ne rfl (fun c_44 => ?_) (fun c_44 => ?_)
              · exact absurd c1 c_44
              · refine b_iconst rfl ?_
                exact b_ireturn rfl trivial ((fin I1 J1 R1 1 k s hz g1 k1 l1))
        · rw [if_neg c1] at hz
          by_cases c2 : 5 ≤ s.2.1
          · rw [if_pos c2] at hz
            refine b_iload_n rfl rfl ?_
            refine b_sipush rfl ?_
            refine b_icmp_gt rfl (fun c_28 => ?_) (fun c_28 => ?_)
            · exact absurd (i1000.mp c_28) (by omega)
            · refine b_iload_n rfl rfl ?_
              refine b_if_eq rfl (fun c_32 => ?_) (fun c_32 => ?_)
              · exact absurd c_32 (by decide)
              · refine b_aload_n rfl rfl ?_
                refine b_callS rfl rfl hk_Lulls_partOf rfl rfl rfl (Nat.le_of_ble_eq_true rfl) (q_Lulls_partOf hk hp.2.2 hv.2.2) (Nat.le_of_ble_eq_true rfl) (fun r_36 D_36 q_36 => ?_)
                obtain ⟨rfl, rfl⟩ := q_36
                refine b_istore rfl (Nat.le_of_ble_eq_true rfl) ?_
                refine b_iload rfl rfl ?_
                refine b_iconst rfl ?_
                refine b_icmp_ne rfl (fun c_44 => ?_) (fun c_44 => ?_)
                · refine b_aload_n rfl rfl ?_
                  refine b_getI rfl (by first | rfl | assumption) rfl ?_
                  rw [l1.2.2.1]
                  refine b_iconst rfl ?_
                  refine b_icmp_lt rfl (fun c_54 => ?_) (fun c_54 => ?_)
                  · exact absurd c_54 (Int32.not_lt.mpr c2)
                  · refine b_iconst rfl ?_
                    exact b_ireturn rfl trivial ((fin I1 J1 R1 5 k s hz g1 k1 l1))
                · exact absurd c_44 c1
          · rw [if_neg c2] at hz
            refine b_iload_n rfl rfl ?_
            refine b_sipush rfl ?_
            refine b_icmp_gt rfl (fun c_28 => ?_) (fun c_28 => ?_)
            · exact absurd (i1000.mp c_28) (by omega)
            · refine b_iload_n rfl rfl ?_
              refine b_if_eq rfl (fun c_32 => ?_) (fun c_32 => ?_)
              · exact absurd c_32 (by decide)
              · refine b_aload_n rfl rfl ?_
                refine b_callS rfl rfl hk_Lulls_partOf rfl rfl rfl (Nat.le_of_ble_eq_true rfl) (q_Lulls_partOf hk hp.2.2 hv.2.2) (Nat.le_of_ble_eq_true rfl) (fun r_36 D_36 q_36 => ?_)
                obtain ⟨rfl, rfl⟩ := q_36
                refine b_istore rfl (Nat.le_of_ble_eq_true rfl) ?_
                refine b_iload rfl rfl ?_
                refine b_iconst rfl ?_
                refine b_icmp_ne rfl (fun c_44 => ?_) (fun c_44 => ?_)
                · refine b_aload_n rfl rfl ?_
                  refine b_getI rfl (by first | rfl | assumption) rfl ?_
                  rw [l1.2.2.1]
                  refine b_iconst rfl ?_
                  refine b_icmp_lt rfl (fun c_54 => ?_) (fun c_54 => ?_)
                  · refine b_aload_n rfl rfl ?_
                    refine b_iload rfl rfl ?_
                    refine b_callV rfl rfl hk_Lulls_takePart rfl rfl rfl (by first | rfl | assumption) rfl (Nat.le_of_ble_eq_true rfl) (q_Lu_takePart (v := pt (tq f n k)) hN1 l1) (Nat.le_of_ble_eq_true rfl) (fun r_62 D_62 q_62 => ?_)
                    obtain ⟨⟨b, rfl, hb⟩, I2, rfl, g2, l2⟩ := q_62
                    have hb2 := fg_b hb
                    refine b_istore_n rfl (Nat.le_of_ble_eq_true rfl) ?_
                    refine b_goto rfl ?_
                    exact b_lp (S132 _ _ I2 _ g2 l2 hz) (le_e (le_e (le_q (by rw [hb2]) (le_e (le_e le_0))))) rfl rfl
                  · exact absurd (Int32.not_lt.mp c_54) c2
                · exact absurd c_44 c1
      | false =>
        have hu : l_rd (tq f n) (m + 1) k false s = if s.2.2.1 = 0 ∧ p_isS (tq f n k) 59 then (0, k, (st_s 1 s.1 s.2.2.2).1, s.2.1, s.2.2.1, (st_s 1 s.1 s.2.2.2).2) else if p_isS (tq f n k) 41 then (if s.2.2.1 = 0 then (1, k, s) else l_rd (tq f n) m (k + 1) false (l_cl s)) else if l_to (lu_op (tq f n k)) s then l_rd (tq f n) m (k + 1) true (l_to1 (lu_op (tq f n k)) s) else (1, k, l_to1 (lu_op (tq f n k)) s) := rfl
        rw [hu] at hz
        have S92 : ¬ (s.2.2.1 = 0 ∧ p_isS (tq f n k) 59) → hn_B 3 hm_Lulls_read P 92 [.ref (t + 6), .ref 1, .int (b01 false), .int (nI i), .null] [] (I1, J1, R1) := by
          intro c1
          rw [if_neg c1] at hz
          by_cases c2 : p_isS (tq f n k) 41
          · rw [if_pos c2] at hz
            by_cases c3 : s.2.2.1 = 0
            · rw [if_pos c3] at hz
              refine b_aload_n rfl rfl ?_
              refine b_bipush rfl ?_
              refine b_callV rfl rfl hk_Tape_isSign rfl rfl rfl (by first | rfl | assumption) rfl (Nat.le_of_ble_eq_true rfl) (q_Tape_isSign (c := 41) hk hp.2.2 (by omega) hv.2.2) (Nat.le_of_ble_eq_true rfl) (fun r_95 D_95 q_95 => ?_)
              obtain ⟨b, rfl, hb, rfl⟩ := q_95
              rcases hb with ⟨_, rfl⟩ | ⟨hy, _⟩
              rotate_left
              exact absurd c2 hy
              refine b_if_eq rfl (fun c_98 => ?_) (fun c_98 => ?_)
              · exact absurd c_98 (by decide)
              · refine b_aload_n rfl rfl ?_
                refine b_getI rfl (by first | rfl | assumption) rfl ?_
                rw [l1.2.2.2.1]
                refine b_if_ne rfl (fun c_105 => ?_) (fun c_105 => ?_)
                · exact absurd c3 c_105
                · refine b_iconst rfl ?_
                  exact b_ireturn rfl trivial ((fin I1 J1 R1 1 k s hz g1 k1 l1))
            · rw [if_neg c3] at hz
              refine b_aload_n rfl rfl ?_
              refine b_bipush rfl ?_
              refine b_callV rfl rfl hk_Tape_isSign rfl rfl rfl (by first | rfl | assumption) rfl (Nat.le_of_ble_eq_true rfl) (q_Tape_isSign (c := 41) hk hp.2.2 (by omega) hv.2.2) (Nat.le_of_ble_eq_true rfl) (fun r_95 D_95 q_95 => ?_)
              obtain ⟨b, rfl, hb, rfl⟩ := q_95
              rcases hb with ⟨_, rfl⟩ | ⟨hy, _⟩
              rotate_left
              exact absurd c2 hy
              refine b_if_eq rfl (fun c_98 => ?_) (fun c_98 => ?_)
              · exact absurd c_98 (by decide)
              · refine b_aload_n rfl rfl ?_
                refine b_getI rfl (by first | rfl | assumption) rfl ?_
                rw [l1.2.2.2.1]
                refine b_if_ne rfl (fun c_105 => ?_) (fun c_105 => ?_)
                · refine b_aload_n rfl rfl ?_
                  refine b_callV rfl rfl hk_Lulls_closeBracket rfl rfl rfl (by first | rfl | assumption) rfl (Nat.le_of_ble_eq_true rfl) (q_Lu_closeBracket hN1 l1) (Nat.le_of_ble_eq_true rfl) (fun r_111 D_111 q_111 => ?_)
                  obtain ⟨rfl, I2, rfl, g2, l2⟩ := q_111
                  refine b_goto rfl ?_
                  exact S132 false (l_cl s) I2 _ g2 l2 hz
                · exact absurd c_105 c3
          · rw [if_neg c2] at hz
            by_cases c3 : l_to (lu_op (tq f n k)) s
            · rw [if_pos c3] at hz
              refine b_aload_n rfl rfl ?_
              refine b_bipush rfl ?_
              refine b_callV rfl rfl hk_Tape_isSign rfl rfl rfl (by first | rfl | assumption) rfl (Nat.le_of_ble_eq_true rfl) (q_Tape_isSign (c := 41) hk hp.2.2 (by omega) hv.2.2) (Nat.le_of_ble_eq_true rfl) (fun r_95 D_95 q_95 => ?_)
              obtain ⟨b, rfl, hb, rfl⟩ := q_95
              rcases hb with ⟨hy, _⟩ | ⟨_, rfl⟩
              exact absurd hy c2
              refine b_if_eq rfl (fun c_98 => ?_) (fun c_98 => ?_)
              · refine b_aload_n rfl rfl ?_
                refine b_aload_n rfl rfl ?_
                refine b_callS rfl rfl hk_Lulls_operatorOf rfl rfl rfl (Nat.le_of_ble_eq_true rfl) (q_Lulls_operatorOf hk hp.2.2 hv.2.2) (Nat.le_of_ble_eq_true rfl) (fun r_119 D_119 q_119 => ?_)
                obtain ⟨rfl, rfl⟩ := q_119
                refine b_callV rfl rfl hk_Lulls_takeOperator rfl rfl rfl (by first | rfl | assumption) rfl (Nat.le_of_ble_eq_true rfl) (q_Lu_takeOperator (v := lu_op (tq f n k)) hN1 l1) (Nat.le_of_ble_eq_true rfl) (fun r_122 D_122 q_122 => ?_)
                obtain ⟨⟨b, rfl, hb⟩, I2, rfl, g2, l2⟩ := q_122
                rcases hb with ⟨_, rfl⟩ | ⟨hy, _⟩
                rotate_left
                exact absurd c3 hy
                refine b_if_ne rfl (fun c_125 => ?_) (fun c_125 => ?_)
                · refine b_iconst rfl ?_
                  refine b_istore_n rfl (Nat.le_of_ble_eq_true rfl) ?_
                  exact S132 true _ I2 _ g2 l2 hz
                · exact absurd c_125 (by decide)
              · exact absurd rfl c_98
            · rw [if_neg c3] at hz
              refine b_aload_n rfl rfl ?_
              refine b_bipush rfl ?_
              refine b_callV rfl rfl hk_Tape_isSign rfl rfl rfl (by first | rfl | assumption) rfl (Nat.le_of_ble_eq_true rfl) (q_Tape_isSign (c := 41) hk hp.2.2 (by omega) hv.2.2) (Nat.le_of_ble_eq_true rfl) (fun r_95 D_95 q_95 => ?_)
              obtain ⟨b, rfl, hb, rfl⟩ := q_95
              rcases hb with ⟨hy, _⟩ | ⟨_, rfl⟩
              exact absurd hy c2
              refine b_if_eq rfl (fun c_98 => ?_) (fun c_98 => ?_)
              · refine b_aload_n rfl rfl ?_
                refine b_aload_n rfl rfl ?_
                refine b_callS rfl rfl hk_Lulls_operatorOf rfl rfl rfl (Nat.le_of_ble_eq_true rfl) (q_Lulls_operatorOf hk hp.2.2 hv.2.2) (Nat.le_of_ble_eq_true rfl) (fun r_119 D_119 q_119 => ?_)
                obtain ⟨rfl, rfl⟩ := q_119
                refine b_callV rfl rfl hk_Lulls_takeOperator rfl rfl rfl (by first | rfl | assumption) rfl (Nat.le_of_ble_eq_true rfl) (q_Lu_takeOperator (v := lu_op (tq f n k)) hN1 l1) (Nat.le_of_ble_eq_true rfl) (fun r_122 D_122 q_122 => ?_)
                obtain ⟨⟨b, rfl, hb⟩, I2, rfl, g2, l2⟩ := q_122
                rcases hb with ⟨hy, _⟩ | ⟨_, rfl⟩
                exact absurd hy c3
                refine b_if_ne rfl (fun c_125 => ?_) (fun c_125 => ?_)
                · exact absurd rfl c_125
                · refine b_iconst rfl ?_
                  exact b_ireturn rfl trivial ((fin I2 J1 R1 1 k _ hz ⟨fun b b1 b6 b7 b8 => by rw [g2 b b6 b7 b8, g1.1 b b1 b6 b7 b8], g1.2⟩ (hs_Rd_l3 k1 g2 tt5) l2))
              · exact absurd rfl c_98
        by_cases c1 : s.2.2.1 = 0
        · by_cases c2 : p_isS (tq f n k) 59
          · rw [if_pos ⟨c1, c2⟩] at hz
            refine b_iload_n rfl rfl ?_
            refine b_sipush rfl ?_
            refine b_icmp_gt rfl (fun c_28 => ?_) (fun c_28 => ?_)
            · exact absurd (i1000.mp c_28) (by omega)
            · refine b_iload_n rfl rfl ?_
              refine b_if_eq rfl (fun c_32 => ?_) (fun c_32 => ?_)
              · refine b_aload_n rfl rfl ?_
                refine b_getI rfl (by first | rfl | assumption) rfl ?_
                rw [l1.2.2.2.1]
                refine b_if_ne rfl (fun c_73 => ?_) (fun c_73 => ?_)
                · exact absurd c1 c_73
                · refine b_aload_n rfl rfl ?_
                  refine b_bipush rfl ?_
                  refine b_callV rfl rfl hk_Tape_isSign rfl rfl rfl (by first | rfl | assumption) rfl (Nat.le_of_ble_eq_true rfl) (q_Tape_isSign (c := 59) hk hp.2.2 (by omega) hv.2.2) (Nat.le_of_ble_eq_true rfl) (fun r_79 D_79 q_79 => ?_)
                  obtain ⟨b, rfl, hb, rfl⟩ := q_79
                  rcases hb with ⟨_, rfl⟩ | ⟨hy, _⟩
                  rotate_left
                  exact absurd c2 hy
                  refine b_if_eq rfl (fun c_82 => ?_) (fun c_82 => ?_)
                  · exact absurd c_82 (by decide)
                  · refine b_aload_n rfl rfl ?_
                    refine b_iconst rfl ?_
                    refine b_callV rfl rfl hk_Lulls_settle rfl rfl rfl (by first | rfl | assumption) rfl (Nat.le_of_ble_eq_true rfl) (q_Lu_settle (r := 1) hN1 (by omega) l1) (Nat.le_of_ble_eq_true rfl) (fun r_87 D_87 q_87 => ?_)
                    obtain ⟨rfl, I2, rfl, g2, l2⟩ := q_87
                    refine b_iconst rfl ?_
                    exact b_ireturn rfl trivial ((fin I2 J1 R1 0 k _ hz ⟨fun b b1 b6 b7 b8 => by rw [g2 b b6 b7 b8, g1.1 b b1 b6 b7 b8], g1.2⟩ (hs_Rd_l3 k1 g2 tt5) l2))
              · exact absurd rfl c_32
          · refine b_iload_n rfl rfl ?_
            refine b_sipush rfl ?_
            refine b_icmp_gt rfl (fun c_28 => ?_) (fun c_28 => ?_)
            · exact absurd (i1000.mp c_28) (by omega)
            · refine b_iload_n rfl rfl ?_
              refine b_if_eq rfl (fun c_32 => ?_) (fun c_32 => ?_)
              · refine b_aload_n rfl rfl ?_
                refine b_getI rfl (by first | rfl | assumption) rfl ?_
                rw [l1.2.2.2.1]
                refine b_if_ne rfl (fun c_73 => ?_) (fun c_73 => ?_)
                · exact absurd c1 c_73
                · refine b_aload_n rfl rfl ?_
                  refine b_bipush rfl ?_
                  refine b_callV rfl rfl hk_Tape_isSign rfl rfl rfl (by first | rfl | assumption) rfl (Nat.le_of_ble_eq_true rfl) (q_Tape_isSign (c := 59) hk hp.2.2 (by omega) hv.2.2) (Nat.le_of_ble_eq_true rfl) (fun r_79 D_79 q_79 => ?_)
                  obtain ⟨b, rfl, hb, rfl⟩ := q_79
                  rcases hb with ⟨hy, _⟩ | ⟨_, rfl⟩
                  exact absurd hy c2
                  refine b_if_eq rfl (fun c_82 => ?_) (fun c_82 => ?_)
                  · exact S92 (fun z => c2 z.2)
                  · exact absurd rfl c_82
              · exact absurd rfl c_32
        · refine b_iload_n rfl rfl ?_
          refine b_sipush rfl ?_
          refine b_icmp_gt rfl (fun c_28 => ?_) (fun c_28 => ?_)
          · exact absurd (i1000.mp c_28) (by omega)
          · refine b_iload_n rfl rfl ?_
            refine b_if_eq rfl (fun c_32 => ?_) (fun c_32 => ?_)
            · refine b_aload_n rfl rfl ?_
              refine b_getI rfl (by first | rfl | assumption) rfl ?_
              rw [l1.2.2.2.1]
              refine b_if_ne rfl (fun c_73 => ?_) (fun c_73 => ?_)
              · exact S92 (fun z => c1 z.1)
              · exact absurd c_73 c1
            · exact absurd rfl c_32
  obtain ⟨I0, hI0⟩ : ∃ z, z = hn_u (hn_u (hn_u (hn_u I (t + 6) 1 0) (t + 6) 3 0) (t + 6) 4 0) (t + 6) 5 0 := ⟨_, rfl⟩
  have ef : ∀ b, b ≠ t + 6 → I0 b = I b := fun b h6 => by rw [hI0, hn_u_ne _ _ _ h6, hn_u_ne _ _ _ h6, hn_u_ne _ _ _ h6, hn_u_ne _ _ _ h6]
  have l0 : hs_Ls I0 t ([], 0, 0, []) := by
    refine ⟨?_, ?_, ?_, ?_, fun i hi => absurd hi (Nat.not_lt_zero _), fun i hi => absurd hi (Nat.not_lt_zero _), Nat.zero_le _, Nat.zero_le _⟩
    all_goals rw [hI0]; simp [hn_u, va_up]; try rfl
  refine b_aload_n rfl rfl ?_
  refine b_iconst rfl ?_
  refine b_putI rfl (by first | rfl | assumption) rfl rfl ⟨rfl, rfl⟩ ?_
  refine b_aload_n rfl rfl ?_
  refine b_iconst rfl ?_
  refine b_putI rfl (by first | rfl | assumption) rfl rfl ⟨rfl, rfl⟩ ?_
  refine b_aload_n rfl rfl ?_
  refine b_iconst rfl ?_
  refine b_putI rfl (by first | rfl | assumption) rfl rfl ⟨rfl, rfl⟩ ?_
  refine b_aload_n rfl rfl ?_
  refine b_iconst rfl ?_
  refine b_putI rfl (by first | rfl | assumption) rfl rfl ⟨rfl, rfl⟩ ?_
  rw [← hI0]
  refine b_iconst rfl ?_
  refine b_istore_n rfl (Nat.le_of_ble_eq_true rfl) ?_
  refine b_iconst rfl ?_
  refine b_istore_n rfl (Nat.le_of_ble_eq_true rfl) ?_
  exact b_lp (lp k0 true ([], 0, 0, []) I0 J R ⟨fun b _ b6 _ _ => ef b b6, fun _ _ => rfl, fun _ _ => rfl, fun _ _ => rfl⟩ (hs_Rd_l3 h (fun b b6 _ _ => ef b b6) tt5) l0 hZ) (le_e (le_e (le_q (by rfl) (le_q (by rfl) (le_n le_0))))) rfl rfl
end HNread
