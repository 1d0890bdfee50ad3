section HNother
variable {I I' : Nat → Nat → Int32} {J J' : Nat → Nat → Int64} {R R' : Nat → Nat → Option Nat}
theorem q_Reader_takeNewName {f : Nat → Nat} {n a kn pn : Nat} {nm pm : Nat → Nat} {s : rd} (h : hs_Rd I J R f n s) (hN : hs_Net R a) (hSt : hs_St R (a + 11)) (hn : hs_Nn I J a kn nm pn pm) : hn_F 3 hm_Reader_takeNewName [.ref 3, .ref a] (I, J, R) (fun r D' => ∃ v, r = some (.long v) ∧ (nAt f n s → v = nJ (tq f n s.2).2.2.2) ∧ hs_rp I J R f n (p_nn f n nm kn pm pn s) D') := by
  refine hn_F_of _ hk_Reader_takeNewName rfl (Nat.le_of_ble_eq_true rfl) ?_
  have hh := h
  obtain ⟨hr1, hr3, hS, hk, hf, hs⟩ := h
  have hv := tq_v hS s.2
  have hka := hN.2.1
  by_cases hA : nAt f n s
  · have e2 : p_nn f n nm kn pm pn s = p_u f n (nfd nm (tq f n s.2).2.2.2 kn ≠ none ∨ nfd pm (tq f n s.2).2.2.2 pn ≠ none) 3 s := if_pos hA
    rw [e2]
    have e3 := p_a_y hA
    obtain ⟨x, hx⟩ : ∃ x, x = (tq f n s.2).2.2.2 := ⟨_, rfl⟩
    have hx2 : x < 2000000000000 := by rw [hx]; exact hv.1 hA.2.1
    rw [← hx]
    have hon1 := oI_n (o := nfd nm x kn) (fun k hk => by have := (nfd_lt hk).1; have := hn.2.1; omega)
    have hon2 := oI_n (o := nfd pm x pn) (fun k hk => by have := (nfd_lt hk).1; have := hn.2.2.2.2.1; omega)
    obtain ⟨P, hP⟩ : ∃ P : Option Value → hnD → Prop, P = (fun r D' => ∃ v, r = some (.long v) ∧ (nAt f n s → v = nJ x) ∧ hs_rp I J R f n (p_u f n (nfd nm x kn ≠ none ∨ nfd pm x pn ≠ none) 3 s) D') := ⟨_, rfl⟩
    rw [← hP]
    have S43 : ∀ (b : Int32) (I1 : Nat → Nat → Int32) (J1 : Nat → Nat → Int64) (R1 : Nat → Nat → Option Nat), fg (nfd nm x kn ≠ none ∨ nfd pm x pn ≠ none) b → hs_rf I J R I1 J1 R1 → hs_Rd I1 J1 R1 f n s → hn_B 3 hm_Reader_takeNewName P 43 [.ref 3, .ref a, .long (nJ x), .null] [.int b, .ref 3] (I1, J1, R1) := by
      intro b I1 J1 R1 hb hg hk1
      refine b_iconst rfl ?_
      refine b_callV rfl rfl hk_Reader_takeUnless rfl rfl rfl (by first | rfl | assumption) rfl (Nat.le_of_ble_eq_true rfl) (q_Reader_takeUnless (c := 3) hk1 hA.1 hb (by omega)) (Nat.le_of_ble_eq_true rfl) (fun r_44 D_44 q_44 => ?_)
      obtain ⟨rfl, I2, J2, R2, rfl, ht, hk2⟩ := q_44
      refine b_lload_n rfl rfl ?_
      exact b_lreturn rfl trivial ((by rw [hP]; exact ⟨_, rfl, fun _ => rfl, _, _, _, rfl, hs_rf_t hg ht, hk2⟩))
    refine b_aload_n rfl rfl ?_
    refine b_callV rfl rfl hk_Reader_isAtName rfl rfl rfl (by first | rfl | assumption) rfl (Nat.le_of_ble_eq_true rfl) (q_Reader_isAtName hh) (Nat.le_of_ble_eq_true rfl) (fun r_1 D_1 q_1 => ?_)
    obtain ⟨b, rfl, hb, I1, J1, R1, rfl, hg, hk1⟩ := q_1
    rw [e3] at hk1
    rcases hb with ⟨_, rfl⟩ | ⟨hy, _⟩
    rotate_left
    exact absurd hA hy
    refine b_if_ne rfl (fun c_4 => ?_) (fun c_4 => ?_)
    · refine b_aload_n rfl rfl ?_
      refine b_getR rfl (by first | rfl | assumption) rfl hk1.2.1 ?_
      refine b_getL rfl (by first | rfl | assumption) rfl ?_
      rw [hk1.2.2.2.1.2.2.2.2.2.1 hA.2.1, ← hx]
      refine b_lstore_n rfl (Nat.le_of_ble_eq_true rfl) ?_
      refine b_aload_n rfl rfl ?_
      refine b_aload_n rfl rfl ?_
      refine b_lload_n rfl rfl ?_
      refine b_callV rfl rfl hk_Net_knotNamed rfl rfl rfl (by first | rfl | assumption) rfl (Nat.le_of_ble_eq_true rfl) (q_Net_knotNamed (hs_Net_rf hN hg) (hs_Nn_rf hn hN.1 hg) hx2) (Nat.le_of_ble_eq_true rfl) (fun r_22 D_22 q_22 => ?_)
      obtain ⟨rfl, rfl⟩ := q_22
      refine b_iconst rfl ?_
      refine b_icmp_ne rfl (fun c_26 => ?_) (fun c_26 => ?_)
      · refine b_iconst rfl ?_
        refine b_goto rfl ?_
        first | exact S43 1 _ _ _ (Or.inl ⟨Or.inl (fun z => c_26 (hon1.mpr z)), rfl⟩) hg hk1 | exact S43 1 _ _ _ (Or.inl ⟨Or.inr (fun z => c_35 (hon2.mpr z)), rfl⟩) hg hk1 | exact S43 0 _ _ _ (Or.inr ⟨fun z => z.elim (fun y => y (hon1.mp (Classical.not_not.mp c_26))) (fun y => y (hon2.mp c_35)), rfl⟩) hg hk1 | exact S43 0 _ _ _ (Or.inr ⟨fun z => z.elim (fun y => y (hon1.mp c_26)) (fun y => y (hon2.mp c_35)), rfl⟩) hg hk1
      · refine b_aload_n rfl rfl ?_
        refine b_lload_n rfl rfl ?_
        refine b_callV rfl rfl hk_Net_personNamed rfl rfl rfl (by first | rfl | assumption) rfl (Nat.le_of_ble_eq_true rfl) (q_Net_personNamed (hs_Net_rf hN hg) (hs_St_rf hSt hg) (hs_Nn_rf hn hN.1 hg) hx2) (Nat.le_of_ble_eq_true rfl) (fun r_31 D_31 q_31 => ?_)
        obtain ⟨rfl, rfl⟩ := q_31
        refine b_iconst rfl ?_
        refine b_icmp_eq rfl (fun c_35 => ?_) (fun c_35 => ?_)
        · refine b_iconst rfl ?_
          first | exact S43 1 _ _ _ (Or.inl ⟨Or.inl (fun z => c_26 (hon1.mpr z)), rfl⟩) hg hk1 | exact S43 1 _ _ _ (Or.inl ⟨Or.inr (fun z => c_35 (hon2.mpr z)), rfl⟩) hg hk1 | exact S43 0 _ _ _ (Or.inr ⟨fun z => z.elim (fun y => y (hon1.mp (Classical.not_not.mp c_26))) (fun y => y (hon2.mp c_35)), rfl⟩) hg hk1 | exact S43 0 _ _ _ (Or.inr ⟨fun z => z.elim (fun y => y (hon1.mp c_26)) (fun y => y (hon2.mp c_35)), rfl⟩) hg hk1
        · refine b_iconst rfl ?_
          refine b_goto rfl ?_
          first | exact S43 1 _ _ _ (Or.inl ⟨Or.inl (fun z => c_26 (hon1.mpr z)), rfl⟩) hg hk1 | exact S43 1 _ _ _ (Or.inl ⟨Or.inr (fun z => c_35 (hon2.mpr z)), rfl⟩) hg hk1 | exact S43 0 _ _ _ (Or.inr ⟨fun z => z.elim (fun y => y (hon1.mp (Classical.not_not.mp c_26))) (fun y => y (hon2.mp c_35)), rfl⟩) hg hk1 | exact S43 0 _ _ _ (Or.inr ⟨fun z => z.elim (fun y => y (hon1.mp c_26)) (fun y => y (hon2.mp c_35)), rfl⟩) hg hk1
    · exact absurd c_4 (by decide)
  · have e2 : p_nn f n nm kn pm pn s = p_a f n s := if_neg hA
    refine b_aload_n rfl rfl ?_
    refine b_callV rfl rfl hk_Reader_isAtName rfl rfl rfl (by first | rfl | assumption) rfl (Nat.le_of_ble_eq_true rfl) (q_Reader_isAtName hh) (Nat.le_of_ble_eq_true rfl) (fun r_1 D_1 q_1 => ?_)
    obtain ⟨b, rfl, hb, I1, J1, R1, rfl, hg, hk1⟩ := q_1
    rcases hb with ⟨hy, _⟩ | ⟨_, rfl⟩
    exact absurd hy hA
    refine b_if_ne rfl (fun c_4 => ?_) (fun c_4 => ?_)
    · exact absurd rfl c_4
    · refine b_ldc2_w rfl ?_
      exact b_lreturn rfl trivial ((by rw [e2]; exact ⟨_, rfl, fun z => absurd z hA, _, _, _, rfl, hg, hk1⟩))
theorem q_Reader_takeOther {f : Nat → Nat} {n a kn pn : Nat} {nm pm : Nat → Nat} {s : rd} {fi tl : Int32} (h : hs_Rd I J R f n s) (hN : hs_Net R a) (hn : hs_Nn I J a kn nm pn pm) : hn_F 3 hm_Reader_takeOther [.ref 3, .ref a, .int fi, .int tl] (I, J, R) (fun r D' => r = some (.int (oI (o_k f n nm kn s))) ∧ hs_rp I J R f n (p_o f n nm kn fi tl s) D') := by
  refine hn_F_of _ hk_Reader_takeOther rfl (Nat.le_of_ble_eq_true rfl) ?_
  have hh := h
  obtain ⟨hr1, hr3, hS, hk, hf, hs⟩ := h
  have hv := tq_v hS s.2
  have hka := hN.2.1
  by_cases hA : nAt f n s
  · have e1 : o_k f n nm kn s = nfd nm (tq f n s.2).2.2.2 kn := if_pos hA
    have e2 : p_o f n nm kn fi tl s = (match nfd nm (tq f n s.2).2.2.2 kn with | none => fl f n 2 s | some k => p_u f n (nI k = fi ∨ sp_bit tl k) 3 s) := if_pos hA
    rw [e1, e2]
    have e3 := p_a_y hA
    have e4 : p_f f n 2 s = fl f n 2 s := if_pos hA.1
    obtain ⟨o, ho⟩ : ∃ o, o = nfd nm (tq f n s.2).2.2.2 kn := ⟨_, rfl⟩
    rw [← ho]
    have hk8 : ∀ k, o = some k → k < 8 := fun k hk => by have := (nfd_lt (ho ▸ hk)).1; have := hn.2.1; omega
    have hon := oI_n (o := o) (fun k hk => by have := hk8 k hk; omega)
    rcases (show o = none ∨ ∃ k, o = some k by cases o with | none => exact Or.inl rfl | some k => exact Or.inr ⟨k, rfl⟩) with e | ⟨k, e⟩
    · rw [e] at ho hon ⊢
      refine b_aload_n rfl rfl ?_
      refine b_callV rfl rfl hk_Reader_isAtName rfl rfl rfl (by first | rfl | assumption) rfl (Nat.le_of_ble_eq_true rfl) (q_Reader_isAtName hh) (Nat.le_of_ble_eq_true rfl) (fun r_1 D_1 q_1 => ?_)
      obtain ⟨b, rfl, hb, I1, J1, R1, rfl, hg, hk1⟩ := q_1
      rw [e3] at hk1
      rcases hb with ⟨_, rfl⟩ | ⟨hy, _⟩
      rotate_left
      exact absurd hA hy
      refine b_if_ne rfl (fun c_4 => ?_) (fun c_4 => ?_)
      · refine b_aload_n rfl rfl ?_
        refine b_aload_n rfl rfl ?_
        refine b_getR rfl (by first | rfl | assumption) rfl hk1.2.1 ?_
        refine b_getL rfl (by first | rfl | assumption) rfl ?_
        rw [hk1.2.2.2.1.2.2.2.2.2.1 hA.2.1]
        refine b_callV rfl rfl hk_Net_knotNamed rfl rfl rfl (by first | rfl | assumption) rfl (Nat.le_of_ble_eq_true rfl) (q_Net_knotNamed (hs_Net_rf hN hg) (hs_Nn_rf hn hN.1 hg) (hv.1 hA.2.1)) (Nat.le_of_ble_eq_true rfl) (fun r_17 D_17 q_17 => ?_)
        obtain ⟨rfl, rfl⟩ := q_17
        rw [← ho]
        refine b_istore rfl (Nat.le_of_ble_eq_true rfl) ?_
        refine b_iload rfl rfl ?_
        refine b_iconst rfl ?_
        refine b_icmp_ne rfl (fun c_25 => ?_) (fun c_25 => ?_)
        · exact absurd (hon.mpr rfl) c_25
        · refine b_aload_n rfl rfl ?_
          refine b_iconst rfl ?_
          refine b_callV rfl rfl hk_Reader_fail rfl rfl rfl (by first | rfl | assumption) rfl (Nat.le_of_ble_eq_true rfl) (q_Reader_fail (c := 2) hk1 (by omega)) (Nat.le_of_ble_eq_true rfl) (fun r_30 D_30 q_30 => ?_)
          obtain ⟨rfl, hq⟩ := q_30
          rw [e4] at hq
          obtain ⟨I2, J2, R2, rfl, ht, hk2⟩ := hq
          refine b_goto rfl ?_
          refine b_iload rfl rfl ?_
          exact b_ireturn rfl trivial (⟨rfl, _, _, _, rfl, hs_rf_t hg ht, hk2⟩)
      · exact absurd c_4 (by decide)
    · have hkk := hk8 k e
      rw [e] at ho hon ⊢
      obtain ⟨P, hP⟩ : ∃ P : Option Value → hnD → Prop, P = (fun r D' => r = some (.int (oI (some k))) ∧ hs_rp I J R f n (p_u f n (nI k = fi ∨ sp_bit tl k) 3 s) D') := ⟨_, rfl⟩
      show hn_B _ _ (fun r D' => r = some (.int (oI (some k))) ∧ hs_rp I J R f n (p_u f n (nI k = fi ∨ sp_bit tl k) 3 s) D') _ _ _ _
      rw [← hP]
      have S57 : ∀ (b : Int32) (I1 : Nat → Nat → Int32) (J1 : Nat → Nat → Int64) (R1 : Nat → Nat → Option Nat), fg (nI k = fi ∨ sp_bit tl k) b → hs_rf I J R I1 J1 R1 → hs_Rd I1 J1 R1 f n s → hn_B 3 hm_Reader_takeOther P 57 [.ref 3, .ref a, .int fi, .int tl, .int (nI k)] [.int b, .ref 3] (I1, J1, R1) := by
        intro b I1 J1 R1 hb hg hk1
        refine b_iconst rfl ?_
        refine b_callV rfl rfl hk_Reader_takeUnless rfl rfl rfl (by first | rfl | assumption) rfl (Nat.le_of_ble_eq_true rfl) (q_Reader_takeUnless (c := 3) hk1 hA.1 hb (by omega)) (Nat.le_of_ble_eq_true rfl) (fun r_58 D_58 q_58 => ?_)
        obtain ⟨rfl, I2, J2, R2, rfl, ht, hk2⟩ := q_58
        refine b_iload rfl rfl ?_
        exact b_ireturn rfl trivial ((by rw [hP]; exact ⟨rfl, _, _, _, rfl, hs_rf_t hg ht, hk2⟩))
      refine b_aload_n rfl rfl ?_
      refine b_callV rfl rfl hk_Reader_isAtName rfl rfl rfl (by first | rfl | assumption) rfl (Nat.le_of_ble_eq_true rfl) (q_Reader_isAtName hh) (Nat.le_of_ble_eq_true rfl) (fun r_1 D_1 q_1 => ?_)
      obtain ⟨b, rfl, hb, I1, J1, R1, rfl, hg, hk1⟩ := q_1
      rw [e3] at hk1
      rcases hb with ⟨_, rfl⟩ | ⟨hy, _⟩
      rotate_left
      exact absurd hA hy
      refine b_if_ne rfl (fun c_4 => ?_) (fun c_4 => ?_)
      · refine b_aload_n rfl rfl ?_
        refine b_aload_n rfl rfl ?_
        refine b_getR rfl (by first | rfl | assumption) rfl hk1.2.1 ?_
        refine b_getL rfl (by first | rfl | assumption) rfl ?_
        rw [hk1.2.2.2.1.2.2.2.2.2.1 hA.2.1]
        refine b_callV rfl rfl hk_Net_knotNamed rfl rfl rfl (by first | rfl | assumption) rfl (Nat.le_of_ble_eq_true rfl) (q_Net_knotNamed (hs_Net_rf hN hg) (hs_Nn_rf hn hN.1 hg) (hv.1 hA.2.1)) (Nat.le_of_ble_eq_true rfl) (fun r_17 D_17 q_17 => ?_)
        obtain ⟨rfl, rfl⟩ := q_17
        rw [← ho]
        refine b_istore rfl (Nat.le_of_ble_eq_true rfl) ?_
        refine b_iload rfl rfl ?_
        refine b_iconst rfl ?_
        refine b_icmp_ne rfl (fun c_25 => ?_) (fun c_25 => ?_)
        · refine b_aload_n rfl rfl ?_
          refine b_iload rfl rfl ?_
          refine b_iload_n rfl rfl ?_
          refine b_icmp_eq rfl (fun c_40 => ?_) (fun c_40 => ?_)
          · refine b_iconst rfl ?_
            refine b_goto rfl ?_
            first | exact S57 1 _ _ _ (Or.inl ⟨Or.inl c_40, rfl⟩) hg hk1 | exact S57 1 _ _ _ (Or.inl ⟨Or.inr c_49, rfl⟩) hg hk1 | exact S57 0 _ _ _ (Or.inr ⟨fun z => z.elim c_40 (fun y => y c_49), rfl⟩) hg hk1
          · refine b_iload_n rfl rfl ?_
            refine b_iload rfl rfl ?_
            refine b_ishr rfl ?_
            refine b_iconst rfl ?_
            refine b_iand rfl ?_
            refine b_if_eq rfl (fun c_49 => ?_) (fun c_49 => ?_)
            · refine b_iconst rfl ?_
              first | exact S57 1 _ _ _ (Or.inl ⟨Or.inl c_40, rfl⟩) hg hk1 | exact S57 1 _ _ _ (Or.inl ⟨Or.inr c_49, rfl⟩) hg hk1 | exact S57 0 _ _ _ (Or.inr ⟨fun z => z.elim c_40 (fun y => y c_49), rfl⟩) hg hk1
            · refine b_iconst rfl ?_
              refine b_goto rfl ?_
              first | exact S57 1 _ _ _ (Or.inl ⟨Or.inl c_40, rfl⟩) hg hk1 | exact S57 1 _ _ _ (Or.inl ⟨Or.inr c_49, rfl⟩) hg hk1 | exact S57 0 _ _ _ (Or.inr ⟨fun z => z.elim c_40 (fun y => y c_49), rfl⟩) hg hk1
        · exact absurd (hon.mp c_25) (fun z => by cases z)
      · exact absurd c_4 (by decide)
  · have e1 : o_k f n nm kn s = none := if_neg hA
    have e2 : p_o f n nm kn fi tl s = p_a f n s := if_neg hA
    refine b_aload_n rfl rfl ?_
    refine b_callV rfl rfl hk_Reader_isAtName rfl rfl rfl (by first | rfl | assumption) rfl (Nat.le_of_ble_eq_true rfl) (q_Reader_isAtName hh) (Nat.le_of_ble_eq_true rfl) (fun r_1 D_1 q_1 => ?_)
    obtain ⟨b, rfl, hb, I1, J1, R1, rfl, hg, hk1⟩ := q_1
    rcases hb with ⟨hy, _⟩ | ⟨_, rfl⟩
    exact absurd hy hA
    refine b_if_ne rfl (fun c_4 => ?_) (fun c_4 => ?_)
    · exact absurd rfl c_4
    · refine b_iconst rfl ?_
      exact b_ireturn rfl trivial ((by rw [e1, e2]; exact ⟨rfl, _, _, _, rfl, hg, hk1⟩))
end HNother
