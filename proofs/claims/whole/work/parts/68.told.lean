section HNtold
variable {I I' : Nat → Nat → Int32} {J J' : Nat → Nat → Int64} {R R' : Nat → Nat → Option Nat}
def p_o (f : Nat → Nat) (n : Nat) (nm : Nat → Nat) (kn : Nat) (fi tl : Int32) (s : rd) : rd :=
  if nAt f n s then (match nfd nm (tq f n s.2).2.2.2 kn with | none => fl f n 2 s | some k => p_u f n (nI k = fi ∨ sp_bit tl k) 3 s) else p_a f n s
theorem p_u_0 {f : Nat → Nat} {n c : Nat} {p : Prop} [Decidable p] {s : rd} (hc : 0 < c) : (p_u f n p c s).1 = 0 ↔ ¬ p := by
  unfold p_u
  by_cases hp : p
  · rw [if_pos hp]; exact ⟨fun z => absurd z (fl_ne hc), fun z => absurd hp z⟩
  · rw [if_neg hp]; exact ⟨fun _ => hp, fun _ => rfl⟩
theorem hs_St_rf {a : Nat} (h : hs_St R a) (g : hs_rf I J R I' J' R') : hs_St R' a := by
  obtain ⟨sa, sk0, sk1, sk2, sk3, sk4, g0, g1, g2, g3⟩ := h
  have e : R' a = R a := g.2.2.1 a (by omega)
  unfold hs_St
  rw [e]
  exact ⟨sa, sk0, sk1, sk2, sk3, sk4, g0, g1, g2, g3⟩
theorem hs_Net_rf {a : Nat} (h : hs_Net R a) (g : hs_rf I J R I' J' R') : hs_Net R' a := by
  obtain ⟨sa, h⟩ := h
  have e : R' a = R a := g.2.2.1 a (by omega)
  have e6 : R' (a + 6) = R (a + 6) := g.2.2.1 (a + 6) (by omega)
  unfold hs_Net
  rw [e, e6]
  exact ⟨sa, h⟩
theorem o_lt {f : Nat → Nat} {n kn : Nat} {nm : Nat → Nat} {s : rd} {k : Nat} (h : o_k f n nm kn s = some k) : k < kn := by
  unfold o_k at h
  by_cases hA : nAt f n s
  · rw [if_pos hA] at h; exact (nfd_lt h).1
  · rw [if_neg hA] at h; cases h
theorem q_Reader_takeKnot {f : Nat → Nat} {n a kn pn : Nat} {nm pm : Nat → Nat} {s : rd} (h : hs_Rd I J R f n s) (hN : hs_Net R a) (hn : hs_Nn I J a kn nm pn pm) : hn_F 3 hm_Reader_takeKnot [.ref 3, .ref a] (I, J, R) (fun r D' => r = some (.int (oI (o_k f n nm kn s))) ∧ hs_rp I J R f n (p_kt f n nm kn s) D') := by
  refine hn_F_of _ hk_Reader_takeKnot rfl (Nat.le_of_ble_eq_true rfl) ?_
  have hh := h
  obtain ⟨hr1, hr3, hS, hk, hf, hs⟩ := h
  have hv := tq_v hS s.2
  have hka := hN.2.1
  by_cases hA : nAt f n s
  · have e1 : o_k f n nm kn s = nfd nm (tq f n s.2).2.2.2 kn := if_pos hA
    have e2 : p_kt f n nm kn s = p_u f n (nfd nm (tq f n s.2).2.2.2 kn = none) 2 s := if_pos hA
    rw [e1, e2]
    have e3 := p_a_y hA
    obtain ⟨P, hP⟩ : ∃ P : Option Value → hnD → Prop, P = (fun r D' => r = some (.int (oI (nfd nm (tq f n s.2).2.2.2 kn))) ∧ hs_rp I J R f n (p_u f n (nfd nm (tq f n s.2).2.2.2 kn = none) 2 s) D') := ⟨_, rfl⟩
    rw [← hP]
    obtain ⟨o, ho⟩ : ∃ o, o = nfd nm (tq f n s.2).2.2.2 kn := ⟨_, rfl⟩
    have hon := oI_n (o := o) (fun k hk => by have := (nfd_lt (ho ▸ hk)).1; have := hn.2.1; omega)
    have S32 : ∀ (b : Int32) (I1 : Nat → Nat → Int32) (J1 : Nat → Nat → Int64) (R1 : Nat → Nat → Option Nat), fg (o = none) b → hs_rf I J R I1 J1 R1 → hs_Rd I1 J1 R1 f n s → hn_B 3 hm_Reader_takeKnot P 32 [.ref 3, .ref a, .int (oI o)] [.int b, .ref 3] (I1, J1, R1) := by
      intro b I1 J1 R1 hb hg hk1
      refine b_iconst rfl ?_
      refine b_callV rfl rfl hk_Reader_takeUnless rfl rfl rfl (by first | rfl | assumption) rfl (Nat.le_of_ble_eq_true rfl) (q_Reader_takeUnless (c := 2) hk1 hA.1 hb (by omega)) (Nat.le_of_ble_eq_true rfl) (fun r_33 D_33 q_33 => ?_)
      obtain ⟨rfl, I2, J2, R2, rfl, ht, hk2⟩ := q_33
      refine b_iload_n rfl rfl ?_
      exact b_ireturn rfl trivial ((by rw [hP]; refine ⟨by rw [ho], _, _, _, rfl, hs_rf_t hg ht, ?_⟩; rw [ho] at hk2; exact hk2))
    refine b_aload_n rfl rfl ?_
    refine b_callV rfl rfl hk_Reader_isAtName rfl rfl rfl (by first | rfl | assumption) rfl (Nat.le_of_ble_eq_true rfl) (q_Reader_isAtName hh) (Nat.le_of_ble_eq_true rfl) (fun r_1 D_1 q_1 => ?_)
    obtain ⟨b, rfl, hb, I1, J1, R1, rfl, hg, hk1⟩ := q_1
    rw [e3] at hk1
    rcases hb with ⟨_, rfl⟩ | ⟨hy, _⟩
    rotate_left
    exact absurd hA hy
    refine b_if_ne rfl (fun c_4 => ?_) (fun c_4 => ?_)
    · refine b_aload_n rfl rfl ?_
      refine b_aload_n rfl rfl ?_
      refine b_getR rfl (by first | rfl | assumption) rfl hk1.2.1 ?_
      refine b_getL rfl (by first | rfl | assumption) rfl ?_
      rw [hk1.2.2.2.1.2.2.2.2.2.1 hA.2.1]
      refine b_callV rfl rfl hk_Net_knotNamed rfl rfl rfl (by first | rfl | assumption) rfl (Nat.le_of_ble_eq_true rfl) (q_Net_knotNamed (hs_Net_rf hN hg) (hs_Nn_rf hn hN.1 hg) (hv.1 hA.2.1)) (Nat.le_of_ble_eq_true rfl) (fun r_17 D_17 q_17 => ?_)
      obtain ⟨rfl, rfl⟩ := q_17
      rw [← ho]
      refine b_istore_n rfl (Nat.le_of_ble_eq_true rfl) ?_
      refine b_aload_n rfl rfl ?_
      refine b_iload_n rfl rfl ?_
      refine b_iconst rfl ?_
      refine b_icmp_ne rfl (fun c_24 => ?_) (fun c_24 => ?_)
      · refine b_iconst rfl ?_
        first | exact S32 1 _ _ _ (Or.inl ⟨hon.mp c_24, rfl⟩) hg hk1 | exact S32 0 _ _ _ (Or.inr ⟨fun z => c_24 (hon.mpr z), rfl⟩) hg hk1
      · refine b_iconst rfl ?_
        refine b_goto rfl ?_
        first | exact S32 1 _ _ _ (Or.inl ⟨hon.mp c_24, rfl⟩) hg hk1 | exact S32 0 _ _ _ (Or.inr ⟨fun z => c_24 (hon.mpr z), rfl⟩) hg hk1
    · exact absurd c_4 (by decide)
  · have e1 : o_k f n nm kn s = none := if_neg hA
    have e2 : p_kt f n nm kn s = p_a f n s := if_neg hA
    refine b_aload_n rfl rfl ?_
    refine b_callV rfl rfl hk_Reader_isAtName rfl rfl rfl (by first | rfl | assumption) rfl (Nat.le_of_ble_eq_true rfl) (q_Reader_isAtName hh) (Nat.le_of_ble_eq_true rfl) (fun r_1 D_1 q_1 => ?_)
    obtain ⟨b, rfl, hb, I1, J1, R1, rfl, hg, hk1⟩ := q_1
    rcases hb with ⟨hy, _⟩ | ⟨_, rfl⟩
    exact absurd hy hA
    refine b_if_ne rfl (fun c_4 => ?_) (fun c_4 => ?_)
    · exact absurd rfl c_4
    · refine b_iconst rfl ?_
      exact b_ireturn rfl trivial ((by rw [e1, e2]; exact ⟨rfl, _, _, _, rfl, hg, hk1⟩))
theorem q_Reader_takePerson {f : Nat → Nat} {n a kn pn : Nat} {nm pm : Nat → Nat} {s : rd} (h : hs_Rd I J R f n s) (hN : hs_Net R a) (hSt : hs_St R (a + 11)) (hn : hs_Nn I J a kn nm pn pm) : hn_F 3 hm_Reader_takePerson [.ref 3, .ref a] (I, J, R) (fun r D' => r = some (.int (oI (o_k f n pm pn s))) ∧ hs_rp I J R f n (p_kt f n pm pn s) D') := by
  refine hn_F_of _ hk_Reader_takePerson rfl (Nat.le_of_ble_eq_true rfl) ?_
  have hh := h
  obtain ⟨hr1, hr3, hS, hk, hf, hs⟩ := h
  have hv := tq_v hS s.2
  have hka := hN.2.1
  by_cases hA : nAt f n s
  · have e1 : o_k f n pm pn s = nfd pm (tq f n s.2).2.2.2 pn := if_pos hA
    have e2 : p_kt f n pm pn s = p_u f n (nfd pm (tq f n s.2).2.2.2 pn = none) 2 s := if_pos hA
    rw [e1, e2]
    have e3 := p_a_y hA
    obtain ⟨P, hP⟩ : ∃ P : Option Value → hnD → Prop, P = (fun r D' => r = some (.int (oI (nfd pm (tq f n s.2).2.2.2 pn))) ∧ hs_rp I J R f n (p_u f n (nfd pm (tq f n s.2).2.2.2 pn = none) 2 s) D') := ⟨_, rfl⟩
    rw [← hP]
    obtain ⟨o, ho⟩ : ∃ o, o = nfd pm (tq f n s.2).2.2.2 pn := ⟨_, rfl⟩
    have hon := oI_n (o := o) (fun k hk => by have := (nfd_lt (ho ▸ hk)).1; have := hn.2.2.2.2.1; omega)
    have S32 : ∀ (b : Int32) (I1 : Nat → Nat → Int32) (J1 : Nat → Nat → Int64) (R1 : Nat → Nat → Option Nat), fg (o = none) b → hs_rf I J R I1 J1 R1 → hs_Rd I1 J1 R1 f n s → hn_B 3 hm_Reader_takePerson P 32 [.ref 3, .ref a, .int (oI o)] [.int b, .ref 3] (I1, J1, R1) := by
      intro b I1 J1 R1 hb hg hk1
      refine b_iconst rfl ?_
      refine b_callV rfl rfl hk_Reader_takeUnless rfl rfl rfl (by first | rfl | assumption) rfl (Nat.le_of_ble_eq_true rfl) (q_Reader_takeUnless (c := 2) hk1 hA.1 hb (by omega)) (Nat.le_of_ble_eq_true rfl) (fun r_33 D_33 q_33 => ?_)
      obtain ⟨rfl, I2, J2, R2, rfl, ht, hk2⟩ := q_33
      refine b_iload_n rfl rfl ?_
      exact b_ireturn rfl trivial ((by rw [hP]; refine ⟨by rw [ho], _, _, _, rfl, hs_rf_t hg ht, ?_⟩; rw [ho] at hk2; exact hk2))
    refine b_aload_n rfl rfl ?_
    refine b_callV rfl rfl hk_Reader_isAtName rfl rfl rfl (by first | rfl | assumption) rfl (Nat.le_of_ble_eq_true rfl) (q_Reader_isAtName hh) (Nat.le_of_ble_eq_true rfl) (fun r_1 D_1 q_1 => ?_)
    obtain ⟨b, rfl, hb, I1, J1, R1, rfl, hg, hk1⟩ := q_1
    rw [e3] at hk1
    rcases hb with ⟨_, rfl⟩ | ⟨hy, _⟩
    rotate_left
    exact absurd hA hy
    refine b_if_ne rfl (fun c_4 => ?_) (fun c_4 => ?_)
    · refine b_aload_n rfl rfl ?_
      refine b_aload_n rfl rfl ?_
      refine b_getR rfl (by first | rfl | assumption) rfl hk1.2.1 ?_
      refine b_getL rfl (by first | rfl | assumption) rfl ?_
      rw [hk1.2.2.2.1.2.2.2.2.2.1 hA.2.1]
      refine b_callV rfl rfl hk_Net_personNamed rfl rfl rfl (by first | rfl | assumption) rfl (Nat.le_of_ble_eq_true rfl) (q_Net_personNamed (hs_Net_rf hN hg) (hs_St_rf hSt hg) (hs_Nn_rf hn hN.1 hg) (hv.1 hA.2.1)) (Nat.le_of_ble_eq_true rfl) (fun r_17 D_17 q_17 => ?_)
      obtain ⟨rfl, rfl⟩ := q_17
      rw [← ho]
      refine b_istore_n rfl (Nat.le_of_ble_eq_true rfl) ?_
      refine b_aload_n rfl rfl ?_
      refine b_iload_n rfl rfl ?_
      refine b_iconst rfl ?_
      refine b_icmp_ne rfl (fun c_24 => ?_) (fun c_24 => ?_)
      · refine b_iconst rfl ?_
        first | exact S32 1 _ _ _ (Or.inl ⟨hon.mp c_24, rfl⟩) hg hk1 | exact S32 0 _ _ _ (Or.inr ⟨fun z => c_24 (hon.mpr z), rfl⟩) hg hk1
      · refine b_iconst rfl ?_
        refine b_goto rfl ?_
        first | exact S32 1 _ _ _ (Or.inl ⟨hon.mp c_24, rfl⟩) hg hk1 | exact S32 0 _ _ _ (Or.inr ⟨fun z => c_24 (hon.mpr z), rfl⟩) hg hk1
    · exact absurd c_4 (by decide)
  · have e1 : o_k f n pm pn s = none := if_neg hA
    have e2 : p_kt f n pm pn s = p_a f n s := if_neg hA
    refine b_aload_n rfl rfl ?_
    refine b_callV rfl rfl hk_Reader_isAtName rfl rfl rfl (by first | rfl | assumption) rfl (Nat.le_of_ble_eq_true rfl) (q_Reader_isAtName hh) (Nat.le_of_ble_eq_true rfl) (fun r_1 D_1 q_1 => ?_)
    obtain ⟨b, rfl, hb, I1, J1, R1, rfl, hg, hk1⟩ := q_1
    rcases hb with ⟨hy, _⟩ | ⟨_, rfl⟩
    exact absurd hy hA
    refine b_if_ne rfl (fun c_4 => ?_) (fun c_4 => ?_)
    · exact absurd rfl c_4
    · refine b_iconst rfl ?_
      exact b_ireturn rfl trivial ((by rw [e1, e2]; exact ⟨rfl, _, _, _, rfl, hg, hk1⟩))
end HNtold
