section HNtakes
variable {I I' : Nat → Nat → Int32} {J J' : Nat → Nat → Int64} {R R' : Nat → Nat → Option Nat}
theorem hs_Nn_rf {a kn pn : Nat} {nm pm : Nat → Nat} (h : hs_Nn I J a kn nm pn pm) (ha : a = 4 ∨ a = 20) (g : hs_rf I J R I' J' R') : hs_Nn I' J' a kn nm pn pm := by
  obtain ⟨h1, h2, h3, h4, h5, h6⟩ := h
  exact ⟨by rw [g.1 a (by omega) (by omega)]; exact h1, h2, fun i hi => by rw [g.2.1 _ (by omega)]; exact h3 i hi, by rw [g.1 _ (by omega) (by omega)]; exact h4, h5, fun i hi => by rw [g.2.1 _ (by omega)]; exact h6 i hi⟩
def p_k (f : Nat → Nat) (n : Nat) (s : rd) : rd := if s.1 = 0 then p_u f n (¬ (15 ≤ wx (tq f n s.2) ∧ wx (tq f n s.2) ≤ 18)) 1 s else s
def p_n (f : Nat → Nat) (n m : Nat) (s : rd) : rd := if s.1 = 0 then (if (tq f n s.2).1 = 2 then p_u f n (m < (tq f n s.2).2.2.2) 4 s else fl f n 1 s) else s
def p_a (f : Nat → Nat) (n : Nat) (s : rd) : rd := if s.1 = 0 ∧ ¬ p_isN (tq f n s.2) then fl f n 1 s else s
abbrev nAt (f : Nat → Nat) (n : Nat) (s : rd) : Prop := s.1 = 0 ∧ p_isN (tq f n s.2)
/-- the one named here -/
def o_k (f : Nat → Nat) (n : Nat) (nm : Nat → Nat) (kn : Nat) (s : rd) : Option Nat := if nAt f n s then nfd nm (tq f n s.2).2.2.2 kn else none
def p_kt (f : Nat → Nat) (n : Nat) (nm : Nat → Nat) (kn : Nat) (s : rd) : rd := if nAt f n s then p_u f n (nfd nm (tq f n s.2).2.2.2 kn = none) 2 s else p_a f n s
def p_nn (f : Nat → Nat) (n : Nat) (nm : Nat → Nat) (kn : Nat) (pm : Nat → Nat) (pn : Nat) (s : rd) : rd := if nAt f n s then p_u f n (nfd nm (tq f n s.2).2.2.2 kn ≠ none ∨ nfd pm (tq f n s.2).2.2.2 pn ≠ none) 3 s else p_a f n s
theorem fl_ne {f : Nat → Nat} {n c : Nat} {s : rd} (hc : 0 < c) : (fl f n c s).1 ≠ 0 := by
  show c + 16 * (tq f n s.2).2.1 ≠ 0
  omega
theorem p_a_y {f : Nat → Nat} {n : Nat} {s : rd} (h : nAt f n s) : p_a f n s = s := if_neg (fun z => z.2 h.2)
theorem p_a_n {f : Nat → Nat} {n : Nat} {s : rd} (h : ¬ nAt f n s) : (p_a f n s).1 ≠ 0 := by
  unfold p_a
  by_cases hz : s.1 = 0
  · rw [if_pos ⟨hz, fun z => h ⟨hz, z⟩⟩]; exact fl_ne (by omega)
  · rw [if_neg (fun z => hz z.1)]; exact hz
theorem q_Reader_takeEnd {f : Nat → Nat} {n : Nat} {s : rd} (h : hs_Rd I J R f n s) : hn_F 3 hm_Reader_takeEnd [.ref 3] (I, J, R) (fun r D' => r = none ∧ hs_rp I J R f n (p_e f n s) D') := by
  refine hn_F_of _ hk_Reader_takeEnd rfl (Nat.le_of_ble_eq_true rfl) ?_
  have hh := h
  obtain ⟨hr1, hr3, hS, hk, hf, hs⟩ := h
  have hp := tq_le f n s.2
  have hv := tq_v hS s.2
  by_cases hz : s.1 = 0
  · have e2 : p_e f n s = p_u f n (¬ p_isS (tq f n s.2) 59) 1 s := if_pos hz
    rw [e2]
    by_cases hc : p_isS (tq f n s.2) 59
    · refine b_aload_n rfl rfl ?_
      refine b_getI rfl (by first | rfl | assumption) rfl ?_
      rw [hf, hz]
      refine b_if_ne rfl (fun c_4 => ?_) (fun c_4 => ?_)
      · exact absurd rfl c_4
      · refine b_aload_n rfl rfl ?_
        refine b_aload_n rfl rfl ?_
        refine b_getR rfl (by first | rfl | assumption) rfl (by assumption) ?_
        refine b_bipush rfl ?_
        refine b_callV rfl rfl hk_Tape_isSign rfl rfl rfl (by first | rfl | assumption) rfl (Nat.le_of_ble_eq_true rfl) (q_Tape_isSign (c := 59) hk hp.2.2 (by omega) hv.2.2) (Nat.le_of_ble_eq_true rfl) (fun r_14 D_14 q_14 => ?_)
        obtain ⟨b, rfl, hb, rfl⟩ := q_14
        rcases hb with ⟨_, rfl⟩ | ⟨hy, _⟩
        rotate_left
        exact absurd hc hy
        refine b_if_ne rfl (fun c_17 => ?_) (fun c_17 => ?_)
        · refine b_iconst rfl ?_
          refine b_iconst rfl ?_
          refine b_callV rfl rfl hk_Reader_takeUnless rfl rfl rfl (by first | rfl | assumption) rfl (Nat.le_of_ble_eq_true rfl) (q_Reader_takeUnless (c := 1) (p := ¬ p_isS (tq f n s.2) 59) (b := 0) hh hz (Or.inr ⟨fun z => z hc, rfl⟩) (by omega)) (Nat.le_of_ble_eq_true rfl) (fun r_26 D_26 q_26 => ?_)
          obtain ⟨rfl, I2, J2, R2, rfl, ht, hk2⟩ := q_26
          exact b_return_ rfl trivial (⟨rfl, _, _, _, rfl, ht, hk2⟩)
        · exact absurd c_17 (by decide)
    · refine b_aload_n rfl rfl ?_
      refine b_getI rfl (by first | rfl | assumption) rfl ?_
      rw [hf, hz]
      refine b_if_ne rfl (fun c_4 => ?_) (fun c_4 => ?_)
      · exact absurd rfl c_4
      · refine b_aload_n rfl rfl ?_
        refine b_aload_n rfl rfl ?_
        refine b_getR rfl (by first | rfl | assumption) rfl (by assumption) ?_
        refine b_bipush rfl ?_
        refine b_callV rfl rfl hk_Tape_isSign rfl rfl rfl (by first | rfl | assumption) rfl (Nat.le_of_ble_eq_true rfl) (q_Tape_isSign (c := 59) hk hp.2.2 (by omega) hv.2.2) (Nat.le_of_ble_eq_true rfl) (fun r_14 D_14 q_14 => ?_)
        obtain ⟨b, rfl, hb, rfl⟩ := q_14
        rcases hb with ⟨hy, _⟩ | ⟨_, rfl⟩
        exact absurd hy hc
        refine b_if_ne rfl (fun c_17 => ?_) (fun c_17 => ?_)
        · exact absurd rfl c_17
        · refine b_iconst rfl ?_
          refine b_goto rfl ?_
          refine b_iconst rfl ?_
          refine b_callV rfl rfl hk_Reader_takeUnless rfl rfl rfl (by first | rfl | assumption) rfl (Nat.le_of_ble_eq_true rfl) (q_Reader_takeUnless (c := 1) (p := ¬ p_isS (tq f n s.2) 59) (b := 1) hh hz (Or.inl ⟨hc, rfl⟩) (by omega)) (Nat.le_of_ble_eq_true rfl) (fun r_26 D_26 q_26 => ?_)
          obtain ⟨rfl, I2, J2, R2, rfl, ht, hk2⟩ := q_26
          exact b_return_ rfl trivial (⟨rfl, _, _, _, rfl, ht, hk2⟩)
  · have e2 : p_e f n s = s := if_neg hz
    refine b_aload_n rfl rfl ?_
    refine b_getI rfl (by first | rfl | assumption) rfl ?_
    rw [hf]
    refine b_if_ne rfl (fun c_4 => ?_) (fun c_4 => ?_)
    · exact b_return_ rfl trivial (⟨rfl, _, _, _, rfl, hs_rf_r, by rw [e2]; exact hh⟩)
    · exact absurd ((hi_nIe (k := 0) (by omega) (by omega)).mp c_4) hz
theorem kd_of {w : Nat} (h : w < 26) : (hn_wnum.getD w 0 < 0 ∨ 3 < hn_wnum.getD w 0 ↔ ¬ (15 ≤ w ∧ w ≤ 18)) ∧ (15 ≤ w ∧ w ≤ 18 → hn_wnum.getD w 0 = nI (w - 15)) := by
  have key : ∀ w : Fin 26, (hn_wnum.getD w.val 0 < 0 ∨ 3 < hn_wnum.getD w.val 0 ↔ ¬ (15 ≤ w.val ∧ w.val ≤ 18)) ∧ (15 ≤ w.val ∧ w.val ≤ 18 → hn_wnum.getD w.val 0 = nI (w.val - 15)) := by decide +kernel
  exact key ⟨w, h⟩
theorem q_Reader_takeKind {f : Nat → Nat} {n : Nat} {s : rd} (h : hs_Rd I J R f n s) : hn_F 3 hm_Reader_takeKind [.ref 3] (I, J, R) (fun r D' => ∃ v, r = some (.int v) ∧ (15 ≤ wx (tq f n s.2) ∧ wx (tq f n s.2) ≤ 18 → v = nI (wx (tq f n s.2) - 15)) ∧ hs_rp I J R f n (p_k f n s) D') := by
  refine hn_F_of _ hk_Reader_takeKind rfl (Nat.le_of_ble_eq_true rfl) ?_
  have hh := h
  obtain ⟨hr1, hr3, hS, hk, hf, hs⟩ := h
  have hwx := wx_lt (tq f n s.2)
  have h5 := hk.2.2.2.2.1
  obtain ⟨kd1, kd2⟩ := kd_of hwx
  obtain ⟨v, hv⟩ : ∃ v, v = hn_wnum.getD (wx (tq f n s.2)) 0 := ⟨_, rfl⟩
  rw [← hv] at kd1 kd2
  have h7 : hn_wnum.getD (5000 + wx (tq f n s.2) - 5000) 0 = v := by rw [show 5000 + wx (tq f n s.2) - 5000 = wx (tq f n s.2) by omega, hv]
  by_cases hz : s.1 = 0
  · have e2 : p_k f n s = p_u f n (¬ (15 ≤ wx (tq f n s.2) ∧ wx (tq f n s.2) ≤ 18)) 1 s := if_pos hz
    rw [e2]
    have S33 : ∀ b, fg (¬ (15 ≤ wx (tq f n s.2) ∧ wx (tq f n s.2) ≤ 18)) b → hn_B 3 hm_Reader_takeKind (fun r D' => ∃ v, r = some (.int v) ∧ (15 ≤ wx (tq f n s.2) ∧ wx (tq f n s.2) ≤ 18 → v = nI (wx (tq f n s.2) - 15)) ∧ hs_rp I J R f n (p_u f n (¬ (15 ≤ wx (tq f n s.2) ∧ wx (tq f n s.2) ≤ 18)) 1 s) D') 33 [.ref 3, .int v] [.int b, .ref 3] (I, J, R) := by
      intro b hb
      refine b_iconst rfl ?_
      refine b_callV rfl rfl hk_Reader_takeUnless rfl rfl rfl (by first | rfl | assumption) rfl (Nat.le_of_ble_eq_true rfl) (q_Reader_takeUnless (c := 1) hh hz hb (by omega)) (Nat.le_of_ble_eq_true rfl) (fun r_34 D_34 q_34 => ?_)
      obtain ⟨rfl, I2, J2, R2, rfl, ht, hk2⟩ := q_34
      refine b_iload_n rfl rfl ?_
      exact b_ireturn rfl trivial (⟨_, rfl, kd2, _, _, _, rfl, ht, hk2⟩)
    refine b_aload_n rfl rfl ?_
    refine b_getR rfl (by first | rfl | assumption) rfl hr3 ?_
    refine b_getR rfl (by first | rfl | assumption) rfl h5 ?_
    refine b_getW rfl (by decide) (by omega) ?_
    show hn_B _ _ _ _ _ (Value.int (hn_wnum.getD (5000 + wx (tq f n s.2) - 5000) 0) :: _) _
    rw [h7]
    refine b_istore_n rfl (Nat.le_of_ble_eq_true rfl) ?_
    refine b_aload_n rfl rfl ?_
    refine b_getI rfl (by first | rfl | assumption) rfl ?_
    rw [hf, hz]
    refine b_if_ne rfl (fun c_15 => ?_) (fun c_15 => ?_)
    · exact absurd rfl c_15
    · refine b_aload_n rfl rfl ?_
      refine b_iload_n rfl rfl ?_
      refine b_if_lt rfl (fun c_20 => ?_) (fun c_20 => ?_)
      · refine b_iconst rfl ?_
        refine b_goto rfl ?_
        first | exact S33 1 (Or.inl ⟨kd1.mp (Or.inl c_20), rfl⟩) | exact S33 0 (Or.inr ⟨fun z => by rcases kd1.mpr z with y | y; exact c_20 y; exact absurd y (Int32.not_lt.mpr c_25), rfl⟩) | exact S33 1 (Or.inl ⟨kd1.mp (Or.inr (Int32.not_le.mp c_25)), rfl⟩)
      · refine b_iload_n rfl rfl ?_
        refine b_iconst rfl ?_
        refine b_icmp_le rfl (fun c_25 => ?_) (fun c_25 => ?_)
        · refine b_iconst rfl ?_
          first | exact S33 1 (Or.inl ⟨kd1.mp (Or.inl c_20), rfl⟩) | exact S33 0 (Or.inr ⟨fun z => by rcases kd1.mpr z with y | y; exact c_20 y; exact absurd y (Int32.not_lt.mpr c_25), rfl⟩) | exact S33 1 (Or.inl ⟨kd1.mp (Or.inr (Int32.not_le.mp c_25)), rfl⟩)
        · refine b_iconst rfl ?_
          refine b_goto rfl ?_
          first | exact S33 1 (Or.inl ⟨kd1.mp (Or.inl c_20), rfl⟩) | exact S33 0 (Or.inr ⟨fun z => by rcases kd1.mpr z with y | y; exact c_20 y; exact absurd y (Int32.not_lt.mpr c_25), rfl⟩) | exact S33 1 (Or.inl ⟨kd1.mp (Or.inr (Int32.not_le.mp c_25)), rfl⟩)
  · have e2 : p_k f n s = s := if_neg hz
    refine b_aload_n rfl rfl ?_
    refine b_getR rfl (by first | rfl | assumption) rfl hr3 ?_
    refine b_getR rfl (by first | rfl | assumption) rfl h5 ?_
    refine b_getW rfl (by decide) (by omega) ?_
    show hn_B _ _ _ _ _ (Value.int (hn_wnum.getD (5000 + wx (tq f n s.2) - 5000) 0) :: _) _
    rw [h7]
    refine b_istore_n rfl (Nat.le_of_ble_eq_true rfl) ?_
    refine b_aload_n rfl rfl ?_
    refine b_getI rfl (by first | rfl | assumption) rfl ?_
    rw [hf]
    refine b_if_ne rfl (fun c_15 => ?_) (fun c_15 => ?_)
    · refine b_iload_n rfl rfl ?_
      exact b_ireturn rfl trivial (⟨_, rfl, kd2, _, _, _, rfl, hs_rf_r, by rw [e2]; exact hh⟩)
    · exact absurd ((hi_nIe (k := 0) (by omega) (by omega)).mp c_15) hz
theorem q_Reader_takeNumber {f : Nat → Nat} {n m : Nat} {s : rd} (h : hs_Rd I J R f n s) (hm : m < 1000) : hn_F 3 hm_Reader_takeNumber [.ref 3, .int (nI m)] (I, J, R) (fun r D' => ∃ v, r = some (.int v) ∧ (s.1 = 0 → (tq f n s.2).1 = 2 → v = nI (tq f n s.2).2.2.2) ∧ hs_rp I J R f n (p_n f n m s) D') := by
  refine hn_F_of _ hk_Reader_takeNumber rfl (Nat.le_of_ble_eq_true rfl) ?_
  have hh := h
  obtain ⟨hr1, hr3, hS, hk, hf, hs⟩ := h
  have hp := tq_le f n s.2
  have hv := tq_v hS s.2
  have h4 := hk.2.2.2.1
  have h7 := hk.2.2.2.2.2.2.1
  by_cases hz : s.1 = 0
  · have hf0 : I 3 1 = nI 0 := by rw [hf, hz]
    have e2 : p_n f n m s = if (tq f n s.2).1 = 2 then p_u f n (m < (tq f n s.2).2.2.2) 4 s else fl f n 1 s := if_pos hz
    rw [e2]
    by_cases h2 : (tq f n s.2).1 = 2
    · rw [if_pos h2]
      have h42 : I 1 4 = nI 2 := by rw [h4, h2]
      have S47 : ∀ b, fg (m < (tq f n s.2).2.2.2) b → hn_B 3 hm_Reader_takeNumber (fun r D' => ∃ v, r = some (.int v) ∧ (s.1 = 0 → (tq f n s.2).1 = 2 → v = nI (tq f n s.2).2.2.2) ∧ hs_rp I J R f n (p_u f n (m < (tq f n s.2).2.2.2) 4 s) D') 47 [.ref 3, .int (nI m), .int (nI (tq f n s.2).2.2.2)] [.int b, .ref 3] (I, J, R) := by
        intro b hb
        refine b_iconst rfl ?_
        refine b_callV rfl rfl hk_Reader_takeUnless rfl rfl rfl (by first | rfl | assumption) rfl (Nat.le_of_ble_eq_true rfl) (q_Reader_takeUnless (c := 4) hh hz hb (by omega)) (Nat.le_of_ble_eq_true rfl) (fun r_48 D_48 q_48 => ?_)
        obtain ⟨rfl, I2, J2, R2, rfl, ht, hk2⟩ := q_48
        refine b_iload_n rfl rfl ?_
        exact b_ireturn rfl trivial (⟨_, rfl, fun _ _ => rfl, _, _, _, rfl, ht, hk2⟩)
      refine b_aload_n rfl rfl ?_
      refine b_getR rfl (by first | rfl | assumption) rfl (by assumption) ?_
      refine b_getI rfl (by first | rfl | assumption) rfl ?_
      rw [h7 h2]
      refine b_istore_n rfl (Nat.le_of_ble_eq_true rfl) ?_
      refine b_aload_n rfl rfl ?_
      refine b_getI rfl (by first | rfl | assumption) rfl ?_
      rw [hf0]
      refine b_if_eq rfl (fun c_12 => ?_) (fun c_12 => ?_)
      · refine b_aload_n rfl rfl ?_
        refine b_getR rfl (by first | rfl | assumption) rfl (by assumption) ?_
        refine b_getI rfl (by first | rfl | assumption) rfl ?_
        rw [h42]
        refine b_iconst rfl ?_
        refine b_icmp_eq rfl (fun c_25 => ?_) (fun c_25 => ?_)
        · refine b_aload_n rfl rfl ?_
          refine b_iload_n rfl rfl ?_
          refine b_iload_n rfl rfl ?_
          refine b_icmp_le rfl (fun c_39 => ?_) (fun c_39 => ?_)
          · refine b_iconst rfl ?_
            first | exact S47 0 (Or.inr ⟨fun z => absurd ((nI_le_c (by have := hv.2.1 h2; omega) (by omega)).mp c_39) (by omega), rfl⟩) | exact S47 1 (Or.inl ⟨Nat.lt_of_not_le (fun z => c_39 ((nI_le_c (by have := hv.2.1 h2; omega) (by omega)).mpr z)), rfl⟩)
          · refine b_iconst rfl ?_
            refine b_goto rfl ?_
            first | exact S47 0 (Or.inr ⟨fun z => absurd ((nI_le_c (by have := hv.2.1 h2; omega) (by omega)).mp c_39) (by omega), rfl⟩) | exact S47 1 (Or.inl ⟨Nat.lt_of_not_le (fun z => c_39 ((nI_le_c (by have := hv.2.1 h2; omega) (by omega)).mpr z)), rfl⟩)
        · exact absurd rfl c_25
      · exact absurd rfl c_12
    · rw [if_neg h2]
      have e3 : p_f f n 1 s = fl f n 1 s := if_pos hz
      refine b_aload_n rfl rfl ?_
      refine b_getR rfl (by first | rfl | assumption) rfl (by assumption) ?_
      refine b_getI rfl (by first | rfl | assumption) rfl ?_
      refine b_istore_n rfl (Nat.le_of_ble_eq_true rfl) ?_
      refine b_aload_n rfl rfl ?_
      refine b_getI rfl (by first | rfl | assumption) rfl ?_
      rw [hf0]
      refine b_if_eq rfl (fun c_12 => ?_) (fun c_12 => ?_)
      · refine b_aload_n rfl rfl ?_
        refine b_getR rfl (by first | rfl | assumption) rfl (by assumption) ?_
        refine b_getI rfl (by first | rfl | assumption) rfl ?_
        rw [h4]
        refine b_iconst rfl ?_
        refine b_icmp_eq rfl (fun c_25 => ?_) (fun c_25 => ?_)
        · exact absurd ((hi_nIe (k := 2) (by omega) (by omega)).mp c_25) h2
        · refine b_aload_n rfl rfl ?_
          refine b_iconst rfl ?_
          refine b_callV rfl rfl hk_Reader_fail rfl rfl rfl (by first | rfl | assumption) rfl (Nat.le_of_ble_eq_true rfl) (q_Reader_fail (c := 1) hh (by omega)) (Nat.le_of_ble_eq_true rfl) (fun r_30 D_30 q_30 => ?_)
          obtain ⟨rfl, hq⟩ := q_30
          rw [e3] at hq
          obtain ⟨I2, J2, R2, rfl, ht, hk2⟩ := hq
          refine b_goto rfl ?_
          refine b_iload_n rfl rfl ?_
          exact b_ireturn rfl trivial (⟨_, rfl, fun _ z => absurd z h2, _, _, _, rfl, ht, hk2⟩)
      · exact absurd rfl c_12
  · have e2 : p_n f n m s = s := if_neg hz
    refine b_aload_n rfl rfl ?_
    refine b_getR rfl (by first | rfl | assumption) rfl (by assumption) ?_
    refine b_getI rfl (by first | rfl | assumption) rfl ?_
    refine b_istore_n rfl (Nat.le_of_ble_eq_true rfl) ?_
    refine b_aload_n rfl rfl ?_
    refine b_getI rfl (by first | rfl | assumption) rfl ?_
    rw [hf]
    refine b_if_eq rfl (fun c_12 => ?_) (fun c_12 => ?_)
    · exact absurd ((hi_nIe (k := 0) (by omega) (by omega)).mp c_12) hz
    · refine b_iconst rfl ?_
      exact b_ireturn rfl trivial (⟨_, rfl, fun z => absurd z hz, _, _, _, rfl, hs_rf_r, by rw [e2]; exact hh⟩)
theorem q_Reader_isAtName {f : Nat → Nat} {n : Nat} {s : rd} (h : hs_Rd I J R f n s) : hn_F 1 hm_Reader_isAtName [.ref 3] (I, J, R) (fun r D' => ∃ b, r = some (.int b) ∧ fg (nAt f n s) b ∧ hs_rp I J R f n (p_a f n s) D') := by
  refine hn_F_of _ hk_Reader_isAtName rfl (Nat.le_of_ble_eq_true rfl) ?_
  have hh := h
  obtain ⟨hr1, hr3, hS, hk, hf, hs⟩ := h
  have hp := tq_le f n s.2
  by_cases hz : s.1 = 0
  · by_cases hN : p_isN (tq f n s.2)
    · have hA : nAt f n s := ⟨hz, hN⟩
      refine b_aload_n rfl rfl ?_
      refine b_getI rfl (by first | rfl | assumption) rfl ?_
      rw [hf, hz]
      refine b_if_ne rfl (fun c_4 => ?_) (fun c_4 => ?_)
      · exact absurd rfl c_4
      · refine b_aload_n rfl rfl ?_
        refine b_getR rfl (by first | rfl | assumption) rfl (by assumption) ?_
        refine b_callV rfl rfl hk_Tape_isName rfl rfl rfl (by first | rfl | assumption) rfl (Nat.le_of_ble_eq_true rfl) (q_Tape_isName hk hp.2.2) (Nat.le_of_ble_eq_true rfl) (fun r_11 D_11 q_11 => ?_)
        obtain ⟨b, rfl, hb, rfl⟩ := q_11
        rcases hb with ⟨_, rfl⟩ | ⟨hy, _⟩
        rotate_left
        exact absurd hN hy
        refine b_if_ne rfl (fun c_14 => ?_) (fun c_14 => ?_)
        · refine b_aload_n rfl rfl ?_
          refine b_getI rfl (by first | rfl | assumption) rfl ?_
          rw [hf, hz]
          refine b_if_ne rfl (fun c_26 => ?_) (fun c_26 => ?_)
          · exact absurd rfl c_26
          · refine b_iconst rfl ?_
            refine b_goto rfl ?_
            exact b_ireturn rfl (by first | exact Or.inl rfl | exact Or.inr rfl | exact trivial) (⟨_, rfl, Or.inl ⟨hA, rfl⟩, _, _, _, rfl, hs_rf_r, by rw [p_a_y hA]; exact hh⟩)
        · exact absurd c_14 (by decide)
    · have hA : ¬ nAt f n s := fun z => hN z.2
      have e3 : p_f f n 1 s = p_a f n s := by unfold p_f p_a; rw [if_pos hz, if_pos ⟨hz, hN⟩]
      have hne := p_a_n hA
      refine b_aload_n rfl rfl ?_
      refine b_getI rfl (by first | rfl | assumption) rfl ?_
      rw [hf, hz]
      refine b_if_ne rfl (fun c_4 => ?_) (fun c_4 => ?_)
      · exact absurd rfl c_4
      · refine b_aload_n rfl rfl ?_
        refine b_getR rfl (by first | rfl | assumption) rfl (by assumption) ?_
        refine b_callV rfl rfl hk_Tape_isName rfl rfl rfl (by first | rfl | assumption) rfl (Nat.le_of_ble_eq_true rfl) (q_Tape_isName hk hp.2.2) (Nat.le_of_ble_eq_true rfl) (fun r_11 D_11 q_11 => ?_)
        obtain ⟨b, rfl, hb, rfl⟩ := q_11
        rcases hb with ⟨hy, _⟩ | ⟨_, rfl⟩
        exact absurd hy hN
        refine b_if_ne rfl (fun c_14 => ?_) (fun c_14 => ?_)
        · exact absurd rfl c_14
        · refine b_aload_n rfl rfl ?_
          refine b_iconst rfl ?_
          refine b_callV rfl rfl hk_Reader_fail rfl rfl rfl (by first | rfl | assumption) rfl (Nat.le_of_ble_eq_true rfl) (q_Reader_fail (c := 1) hh (by omega)) (Nat.le_of_ble_eq_true rfl) (fun r_19 D_19 q_19 => ?_)
          obtain ⟨rfl, hq⟩ := q_19
          rw [e3] at hq
          obtain ⟨I2, J2, R2, rfl, ht, hk2⟩ := hq
          have hk3 := hk2
          obtain ⟨_, _, _, _, hf2, hs2⟩ := hk2
          refine b_aload_n rfl rfl ?_
          refine b_getI rfl (by first | rfl | assumption) rfl ?_
          rw [hf2]
          refine b_if_ne rfl (fun c_26 => ?_) (fun c_26 => ?_)
          · refine b_iconst rfl ?_
            exact b_ireturn rfl (by first | exact Or.inl rfl | exact Or.inr rfl | exact trivial) (⟨_, rfl, Or.inr ⟨hA, rfl⟩, _, _, _, rfl, ht, hk3⟩)
          · exact absurd ((hi_nIe (k := 0) (by omega) (by omega)).mp c_26) hne
  · have hA : ¬ nAt f n s := fun z => hz z.1
    have e2 : p_a f n s = s := if_neg (fun z => hz z.1)
    refine b_aload_n rfl rfl ?_
    refine b_getI rfl (by first | rfl | assumption) rfl ?_
    rw [hf]
    refine b_if_ne rfl (fun c_4 => ?_) (fun c_4 => ?_)
    · refine b_aload_n rfl rfl ?_
      refine b_getI rfl (by first | rfl | assumption) rfl ?_
      rw [hf]
      refine b_if_ne rfl (fun c_26 => ?_) (fun c_26 => ?_)
      · refine b_iconst rfl ?_
        exact b_ireturn rfl (by first | exact Or.inl rfl | exact Or.inr rfl | exact trivial) (⟨_, rfl, Or.inr ⟨hA, rfl⟩, _, _, _, rfl, hs_rf_r, by rw [e2]; exact hh⟩)
      · exact absurd ((hi_nIe (k := 0) (by omega) (by omega)).mp c_26) hz
    · exact absurd ((hi_nIe (k := 0) (by omega) (by omega)).mp c_4) hz
end HNtakes
