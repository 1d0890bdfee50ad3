section HNreadpair
variable {I I' : Nat → Nat → Int32} {J J' : Nat → Nat → Int64} {R R' : Nat → Nat → Option Nat}
theorem p_o_1 {f : Nat → Nat} {n kn : Nat} {nm : Nat → Nat} {fi tl : Int32} {s : rd} (h : (p_o f n nm kn fi tl s).1 = 0) : nAt f n s ∧ (∃ k, o_k f n nm kn s = some k ∧ k < kn ∧ ¬ nI k = fi ∧ ¬ sp_bit tl k) ∧ p_o f n nm kn fi tl s = (0, s.2 + 1) := by
  unfold p_o at h ⊢
  by_cases hz : nAt f n s
  · rw [if_pos hz] at h ⊢
    have e : o_k f n nm kn s = nfd nm (tq f n s.2).2.2.2 kn := if_pos hz
    rcases (show nfd nm (tq f n s.2).2.2.2 kn = none ∨ ∃ k, nfd nm (tq f n s.2).2.2.2 kn = some k by cases nfd nm (tq f n s.2).2.2.2 kn with | none => exact Or.inl rfl | some k => exact Or.inr ⟨k, rfl⟩) with e2 | ⟨k, e2⟩
    · rw [e2] at h; exact absurd h (fl_ne (by omega))
    · rw [e2] at h ⊢
      have h1 := p_u_1 (by omega) h
      exact ⟨hz, ⟨k, e.trans e2, (nfd_lt e2).1, fun z => h1.1 (Or.inl z), fun z => h1.1 (Or.inr z)⟩, h1.2⟩
  · rw [if_neg hz] at h; exact absurd h (p_a_n hz)
def tl_k (g : Nat → Int32) (o : Option Nat) : Int32 := match o with | none => 0 | some k => g k
/-- a line of a pair -/
def p_p1 (f : Nat → Nat) (n : Nat) (g : Nat → Int32) (m : Int32) (s : rd) : rd := p_u f n (m ≤ sp_cnt g) 5 s
def p_pr (f : Nat → Nat) (n : Nat) (nm : Nat → Nat) (kn : Nat) (g : Nat → Int32) (m : Int32) (s : rd) : rd := p_e f n (p_o f n nm kn (oI (o_k f n nm kn (p_p1 f n g m s))) (tl_k g (o_k f n nm kn (p_p1 f n g m s))) (p_kt f n nm kn (p_p1 f n g m s)))
theorem q_Reader_readPair {f : Nat → Nat} {n t q kn pn : Nat} {m : Int32} {nm pm : Nat → Nat} {s : rd} (h : hs_Rd I J R f n s) (h0 : s.1 = 0) (hN : hs_Net R t) (hn : hs_Nn I J t kn nm pn pm) (hq : hn_kind q = (1, 8)) (hq1 : q ≠ 1 ∧ q ≠ 3) (h8 : hs_b8 (I q)) : hn_F 4 hm_Reader_readPair [.ref 3, .ref t, .ref q, .int m] (I, J, R) (fun r D' => r = none ∧ ∃ I2 J2 R2, hs_rf I J R I2 J2 R2 ∧ hs_Rd I2 J2 R2 f n (p_pr f n nm kn (I q) m s) ∧ D' = (if (p_pr f n nm kn (I q) m s).1 = 0 then (hn_u I2 q ((o_k f n nm kn (p_p1 f n (I q) m s)).getD 0) (I q ((o_k f n nm kn (p_p1 f n (I q) m s)).getD 0) ||| ((1 : Int32) <<< (oI (o_k f n nm kn (p_kt f n nm kn (p_p1 f n (I q) m s))) &&& 31))), J2, R2) else (I2, J2, R2))) := by
  refine hn_F_of _ hk_Reader_readPair rfl (Nat.le_of_ble_eq_true rfl) ?_
  have hk8 := hn.2.1
  have ht4 := hN.1
  obtain ⟨P, hP⟩ : ∃ P : Option Value → hnD → Prop, P = (fun r D' => r = none ∧ ∃ I2 J2 R2, hs_rf I J R I2 J2 R2 ∧ hs_Rd I2 J2 R2 f n (p_pr f n nm kn (I q) m s) ∧ D' = (if (p_pr f n nm kn (I q) m s).1 = 0 then (hn_u I2 q ((o_k f n nm kn (p_p1 f n (I q) m s)).getD 0) (I q ((o_k f n nm kn (p_p1 f n (I q) m s)).getD 0) ||| ((1 : Int32) <<< (oI (o_k f n nm kn (p_kt f n nm kn (p_p1 f n (I q) m s))) &&& 31))), J2, R2) else (I2, J2, R2))) := ⟨_, rfl⟩
  rw [← hP]
  have hpr : p_pr f n nm kn (I q) m s = p_e f n (p_o f n nm kn (oI (o_k f n nm kn (p_p1 f n (I q) m s))) (tl_k (I q) (o_k f n nm kn (p_p1 f n (I q) m s))) (p_kt f n nm kn (p_p1 f n (I q) m s))) := rfl
  have hst : (p_pr f n nm kn (I q) m s).1 = 0 → ∃ k, o_k f n nm kn (p_p1 f n (I q) m s) = some k := fun z => by
    rw [hpr] at z
    have a1 := p_e_1 z
    have a2 := p_o_1 a1.1
    have a3 := p_kt_1 a2.1.1
    obtain ⟨k, hk, _⟩ := a3.2.1
    exact ⟨k, hk⟩
  have S14 : ∀ b, fg (m ≤ sp_cnt (I q)) b → hn_B 4 hm_Reader_readPair P 14 [.ref 3, .ref t, .ref q, .int m, .null, .null, .null] [.int b, .ref 3] (I, J, R) := by
    intro b hb
    rcases (show o_k f n nm kn (p_p1 f n (I q) m s) = none ∨ ∃ k, o_k f n nm kn (p_p1 f n (I q) m s) = some k by cases o_k f n nm kn (p_p1 f n (I q) m s) with | none => exact Or.inl rfl | some k => exact Or.inr ⟨k, rfl⟩) with e | ⟨a, e⟩
    · rw [e] at hpr
      refine b_iconst rfl ?_
      refine b_callV rfl rfl hk_Reader_takeUnless rfl rfl rfl (by first | rfl | assumption) rfl (Nat.le_of_ble_eq_true rfl) (q_Reader_takeUnless (c := 5) h h0 hb (by omega)) (Nat.le_of_ble_eq_true rfl) (fun r_15 D_15 q_15 => ?_)
      obtain ⟨rfl, I1, J1, R1, rfl, g1, k1⟩ := q_15
      refine b_aload_n rfl rfl ?_
      refine b_aload_n rfl rfl ?_
      refine b_callV rfl rfl hk_Reader_takeKnot rfl rfl rfl (by first | rfl | assumption) rfl (Nat.le_of_ble_eq_true rfl) (q_Reader_takeKnot k1 (hs_Net_rf hN g1) (hs_Nn_rf hn ht4 g1)) (Nat.le_of_ble_eq_true rfl) (fun r_20 D_20 q_20 => ?_)
      obtain ⟨rfl, I2, J2, R2, rfl, g2, k2⟩ := q_20
      rw [show p_u f n (m ≤ sp_cnt (I q)) 5 s = p_p1 f n (I q) m s from rfl] at k2 ⊢
      rw [e]
      have g12 := hs_rf_t g1 g2
      refine b_istore rfl (Nat.le_of_ble_eq_true rfl) ?_
      refine b_iload rfl rfl ?_
      refine b_iconst rfl ?_
      refine b_icmp_ne rfl (fun c_28 => ?_) (fun c_28 => ?_)
      · exact absurd rfl c_28
      · refine b_iconst rfl ?_
        refine b_goto rfl ?_
        refine b_istore rfl (Nat.le_of_ble_eq_true rfl) ?_
        refine b_aload_n rfl rfl ?_
        refine b_aload_n rfl rfl ?_
        refine b_iload rfl rfl ?_
        refine b_iload rfl rfl ?_
        refine b_callV rfl rfl hk_Reader_takeOther rfl rfl rfl (by first | rfl | assumption) rfl (Nat.le_of_ble_eq_true rfl) (q_Reader_takeOther (fi := oI none) (tl := 0) k2 (hs_Net_rf hN g12) (hs_Nn_rf hn ht4 g12)) (Nat.le_of_ble_eq_true rfl) (fun r_47 D_47 q_47 => ?_)
        obtain ⟨rfl, I3, J3, R3, rfl, g3, k3⟩ := q_47
        refine b_istore rfl (Nat.le_of_ble_eq_true rfl) ?_
        refine b_aload_n rfl rfl ?_
        refine b_callV rfl rfl hk_Reader_takeEnd rfl rfl rfl (by first | rfl | assumption) rfl (Nat.le_of_ble_eq_true rfl) (q_Reader_takeEnd k3) (Nat.le_of_ble_eq_true rfl) (fun r_53 D_53 q_53 => ?_)
        obtain ⟨rfl, I4, J4, R4, rfl, g4, k4⟩ := q_53
        have gg := hs_rf_t (hs_rf_t g12 g3) g4
        have k7 : hs_Rd I4 J4 R4 f n (p_pr f n nm kn (I q) m s) := by rw [hpr]; exact k4
        have hz : ¬ (p_pr f n nm kn (I q) m s).1 = 0 := fun z => by obtain ⟨k, hk⟩ := hst z; rw [e] at hk; cases hk
        refine b_aload_n rfl rfl ?_
        refine b_getI rfl (by first | rfl | assumption) rfl ?_
        refine b_if_ne rfl (fun c_60 => ?_) (fun c_60 => ?_)
        · exact b_return_ rfl trivial ((by rw [hP]; exact ⟨rfl, _, _, _, gg, k7, by rw [if_neg hz]⟩))
        · refine b_iload rfl rfl ?_
          refine b_iconst rfl ?_
          refine b_icmp_eq rfl (fun c_66 => ?_) (fun c_66 => ?_)
          · exact b_return_ rfl trivial ((by rw [hP]; exact ⟨rfl, _, _, _, gg, k7, by rw [if_neg hz]⟩))
          · exact absurd rfl c_66
    · have ha := o_lt e
      rw [e] at hpr
      have hne : ¬ oI (some a) = -1 := fun z => by have := (oI_n (o := some a) (fun k hk => by cases hk; omega)).mp z; cases this
      refine b_iconst rfl ?_
      refine b_callV rfl rfl hk_Reader_takeUnless rfl rfl rfl (by first | rfl | assumption) rfl (Nat.le_of_ble_eq_true rfl) (q_Reader_takeUnless (c := 5) h h0 hb (by omega)) (Nat.le_of_ble_eq_true rfl) (fun r_15 D_15 q_15 => ?_)
      obtain ⟨rfl, I1, J1, R1, rfl, g1, k1⟩ := q_15
      refine b_aload_n rfl rfl ?_
      refine b_aload_n rfl rfl ?_
      refine b_callV rfl rfl hk_Reader_takeKnot rfl rfl rfl (by first | rfl | assumption) rfl (Nat.le_of_ble_eq_true rfl) (q_Reader_takeKnot k1 (hs_Net_rf hN g1) (hs_Nn_rf hn ht4 g1)) (Nat.le_of_ble_eq_true rfl) (fun r_20 D_20 q_20 => ?_)
      obtain ⟨rfl, I2, J2, R2, rfl, g2, k2⟩ := q_20
      rw [show p_u f n (m ≤ sp_cnt (I q)) 5 s = p_p1 f n (I q) m s from rfl] at k2 ⊢
      rw [e]
      have g12 := hs_rf_t g1 g2
      refine b_istore rfl (Nat.le_of_ble_eq_true rfl) ?_
      refine b_iload rfl rfl ?_
      refine b_iconst rfl ?_
      refine b_icmp_ne rfl (fun c_28 => ?_) (fun c_28 => ?_)
      · refine b_aload_n rfl rfl ?_
        refine b_iload rfl rfl ?_
        refine b_iaload rfl (by first | rfl | assumption) (nI_toInt (n := a) (by omega)) (by omega) ?_
        rw [g12.1 q hq1.1 hq1.2]
        refine b_istore rfl (Nat.le_of_ble_eq_true rfl) ?_
        refine b_aload_n rfl rfl ?_
        refine b_aload_n rfl rfl ?_
        refine b_iload rfl rfl ?_
        refine b_iload rfl rfl ?_
        refine b_callV rfl rfl hk_Reader_takeOther rfl rfl rfl (by first | rfl | assumption) rfl (Nat.le_of_ble_eq_true rfl) (q_Reader_takeOther (fi := oI (some a)) (tl := I q a) k2 (hs_Net_rf hN g12) (hs_Nn_rf hn ht4 g12)) (Nat.le_of_ble_eq_true rfl) (fun r_47 D_47 q_47 => ?_)
        obtain ⟨rfl, I3, J3, R3, rfl, g3, k3⟩ := q_47
        refine b_istore rfl (Nat.le_of_ble_eq_true rfl) ?_
        refine b_aload_n rfl rfl ?_
        refine b_callV rfl rfl hk_Reader_takeEnd rfl rfl rfl (by first | rfl | assumption) rfl (Nat.le_of_ble_eq_true rfl) (q_Reader_takeEnd k3) (Nat.le_of_ble_eq_true rfl) (fun r_53 D_53 q_53 => ?_)
        obtain ⟨rfl, I4, J4, R4, rfl, g4, k4⟩ := q_53
        have gg := hs_rf_t (hs_rf_t g12 g3) g4
        have k7 : hs_Rd I4 J4 R4 f n (p_pr f n nm kn (I q) m s) := by rw [hpr]; exact k4
        have e6 := k7.2.2.2.2.1
        have b6 := k7.2.2.2.2.2
        refine b_aload_n rfl rfl ?_
        refine b_getI rfl (by first | rfl | assumption) rfl ?_
        rw [e6]
        refine b_if_ne rfl (fun c_60 => ?_) (fun c_60 => ?_)
        · exact b_return_ rfl trivial ((by rw [hP]; first | exact ⟨rfl, _, _, _, gg, k7, by rw [if_pos ((hi_nIe (i := (p_pr f n nm kn (I q) m s).1) (k := 0) (by omega) (by omega)).mp c_60), e]; rfl⟩ | exact ⟨rfl, _, _, _, gg, k7, by rw [if_neg (fun z => c_60 (by rw [z]; rfl))]⟩))
        · refine b_iload rfl rfl ?_
          refine b_iconst rfl ?_
          refine b_icmp_eq rfl (fun c_66 => ?_) (fun c_66 => ?_)
          · exact absurd c_66 hne
          · refine b_aload_n rfl rfl ?_
            refine b_iload rfl rfl ?_
            refine b_dup2_11 rfl rfl rfl ?_
            refine b_iaload rfl (by first | rfl | assumption) (nI_toInt (n := a) (by omega)) (by omega) ?_
            rw [gg.1 q hq1.1 hq1.2]
            refine b_iconst rfl ?_
            refine b_iload rfl rfl ?_
            refine b_ishl rfl ?_
            refine b_ior rfl ?_
            refine b_iastore rfl (by first | rfl | assumption) (nI_toInt (n := a) (by omega)) (by omega) ?_
            exact b_return_ rfl trivial ((by rw [hP]; first | exact ⟨rfl, _, _, _, gg, k7, by rw [if_pos ((hi_nIe (i := (p_pr f n nm kn (I q) m s).1) (k := 0) (by omega) (by omega)).mp c_60), e]; rfl⟩ | exact ⟨rfl, _, _, _, gg, k7, by rw [if_neg (fun z => c_60 (by rw [z]; rfl))]⟩))
      · exact absurd c_28 hne
  refine b_aload_n rfl rfl ?_
  refine b_aload_n rfl rfl ?_
  refine b_callS rfl rfl hk_Ways_countAll rfl rfl rfl (Nat.le_of_ble_eq_true rfl) (q_Ways_countAll hq h8) (Nat.le_of_ble_eq_true rfl) (fun r_2 D_2 q_2 => ?_)
  obtain ⟨rfl, rfl⟩ := q_2
  refine b_iload_n rfl rfl ?_
  refine b_icmp_lt rfl (fun c_6 => ?_) (fun c_6 => ?_)
  · refine b_iconst rfl ?_
    first | exact S14 1 (Or.inl ⟨Int32.not_lt.mp c_6, rfl⟩) | exact S14 0 (Or.inr ⟨fun z => Int32.not_lt.mpr z c_6, rfl⟩)
  · refine b_iconst rfl ?_
    refine b_goto rfl ?_
    first | exact S14 1 (Or.inl ⟨Int32.not_lt.mp c_6, rfl⟩) | exact S14 0 (Or.inr ⟨fun z => Int32.not_lt.mpr z c_6, rfl⟩)
end HNreadpair
