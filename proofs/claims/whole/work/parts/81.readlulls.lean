section HNreadlulls
variable {I I' : Nat → Nat → Int32} {J J' : Nat → Nat → Int64} {R R' : Nat → Nat → Option Nat}
theorem l_rd_le (T : Nat → tk) : ∀ (m k : Nat) (d : Bool) (s : lst), (l_rd T m k d s).1 ≤ 5
  | 0, _, _, _ => by show 1 ≤ 5; omega
  | m + 1, k, true, s => by
    unfold l_rd
    split
    · show 1 ≤ 5; omega
    · split
      · show 5 ≤ 5; omega
      · exact l_rd_le T m _ _ _
  | m + 1, k, false, s => by
    unfold l_rd
    split
    · show 0 ≤ 5; omega
    · split
      · split
        · show 1 ≤ 5; omega
        · exact l_rd_le T m _ _ _
      · split
        · exact l_rd_le T m _ _ _
        · show 1 ≤ 5; omega
/-- the law read behind the word -/
abbrev l_z (f : Nat → Nat) (n : Nat) (s : rd) : Nat × Nat × lst := l_rd (tq f n) 1001 (s.2 + 1) true ([], 0, 0, [])
/-- a line of the law -/
def p_lu (f : Nat → Nat) (n : Nat) (b : Prop) [Decidable b] (s : rd) : rd := if b then fl f n 3 s else p_e f n (if (l_z f n s).1 = 0 then (0, (l_z f n s).2.1) else fl f n (l_z f n s).1 (0, (l_z f n s).2.1))
theorem hs_Rd_I {f : Nat → Nat} {n : Nat} {s : rd} (h : hs_Rd I J R f n s) (g1 : I' 1 = I 1) (g2 : I' 2 = I 2) (g3 : I' 3 = I 3) : hs_Rd I' J R f n s := by
  obtain ⟨h1, h2, h3, h4, h5, h6⟩ := h
  refine ⟨h1, h2, ⟨h3.1, fun i hi => by rw [g2]; exact h3.2 i hi⟩, ?_, by rw [g3]; exact h5, h6⟩
  unfold hs_Tk
  rw [g1]
  exact h4
/-- what a line of the law may change -/
def hs_r4 (I : Nat → Nat → Int32) (J : Nat → Nat → Int64) (R : Nat → Nat → Option Nat) (I' : Nat → Nat → Int32) (J' : Nat → Nat → Int64) (R' : Nat → Nat → Option Nat) (t : Nat) : Prop := (∀ b, b ≠ 1 → b ≠ 3 → b ≠ t → b ≠ t + 6 → b ≠ t + 7 → b ≠ t + 8 → I' b = I b) ∧ (∀ i, i ≠ 6 → I' t i = I t i) ∧ (∀ b, b ≠ 1 → J' b = J b) ∧ (∀ b, b ≠ 1 → R' b = R b) ∧ ∀ i, i ≠ 5 → R' 1 i = R 1 i
theorem q_Reader_readLulls {f : Nat → Nat} {n t : Nat} {s : rd} {told : Prop} [Decidable told] (h : hs_Rd I J R f n s) (h0 : s.1 = 0) (hN : hs_Net R t) (hb : fg told (I t 6)) : hn_F 4 hm_Reader_readLulls [.ref 3, .ref t] (I, J, R) (fun r D' => r = none ∧ ∃ I2 J2 R2, D' = (I2, J2, R2) ∧ hs_r4 I J R I2 J2 R2 t ∧ hs_Rd I2 J2 R2 f n (p_lu f n told s) ∧ ((p_lu f n told s).1 = 0 → I2 t 6 = 1 ∧ I2 (t + 6) 1 = nI (l_z f n s).2.2.2.2.2.length ∧ ev_in (I2 (t + 7)) (l_z f n s).2.2.2.2.2 ∧ (l_z f n s).2.2.2.2.2.length ≤ 1000)) := by
  refine hn_F_of _ hk_Reader_readLulls rfl (Nat.le_of_ble_eq_true rfl) ?_
  have hN0 := hN
  have ht := hN.1
  have hka := hN.2.1
  obtain ⟨P, hP⟩ : ∃ P : Option Value → hnD → Prop, P = (fun r D' => r = none ∧ ∃ I2 J2 R2, D' = (I2, J2, R2) ∧ hs_r4 I J R I2 J2 R2 t ∧ hs_Rd I2 J2 R2 f n (p_lu f n told s) ∧ ((p_lu f n told s).1 = 0 → I2 t 6 = 1 ∧ I2 (t + 6) 1 = nI (l_z f n s).2.2.2.2.2.length ∧ ev_in (I2 (t + 7)) (l_z f n s).2.2.2.2.2 ∧ (l_z f n s).2.2.2.2.2.length ≤ 1000)) := ⟨_, rfl⟩
  rw [← hP]
  by_cases hy : told
  · have e1 : p_u f n told 3 s = fl f n 3 s := if_pos hy
    have e2 : p_lu f n told s = fl f n 3 s := if_pos hy
    have hne : ¬ (fl f n 3 s).1 = 0 := fl_ne (by omega)
    refine b_aload_n rfl rfl ?_
    refine b_aload_n rfl rfl ?_
    refine b_getI rfl (by first | rfl | assumption) rfl ?_
    refine b_iconst rfl ?_
    refine b_callV rfl rfl hk_Reader_takeUnless rfl rfl rfl (by first | rfl | assumption) rfl (Nat.le_of_ble_eq_true rfl) (q_Reader_takeUnless (c := 3) h h0 hb (by omega)) (Nat.le_of_ble_eq_true rfl) (fun r_6 D_6 q_6 => ?_)
    obtain ⟨rfl, I1, J1, R1, rfl, g1, k1⟩ := q_6
    rw [e1] at k1
    have f1 := k1.2.2.2.2.1
    have f2 := k1.2.2.2.2.2
    refine b_aload_n rfl rfl ?_
    refine b_getI rfl (by first | rfl | assumption) rfl ?_
    rw [f1]
    refine b_if_eq rfl (fun c_13 => ?_) (fun c_13 => ?_)
    · exact absurd ((hi_nIe (k := 0) (by omega) (by omega)).mp c_13) hne
    · exact b_return_ rfl trivial ((by rw [hP, e2]; exact ⟨rfl, I1, J1, R1, rfl, ⟨fun b b1 b3 _ _ _ _ => g1.1 b b1 b3, fun i _ => by rw [g1.1 t (by omega) (by omega)], g1.2⟩, k1, fun z => absurd z hne⟩))
  · have e1 : p_u f n told 3 s = (0, s.2 + 1) := if_neg hy
    obtain ⟨Z, hZ⟩ : ∃ Z, Z = l_z f n s := ⟨_, rfl⟩
    have e2 : p_lu f n told s = p_e f n (if Z.1 = 0 then (0, Z.2.1) else fl f n Z.1 (0, Z.2.1)) := by rw [hZ]; exact if_neg hy
    have hz5 : Z.1 ≤ 5 := by rw [hZ]; exact l_rd_le _ _ _ _ _
    rw [e2, ← hZ] at hP
    have S38 : ∀ (I1 : Nat → Nat → Int32) (J1 : Nat → Nat → Int64) (R1 : Nat → Nat → Option Nat), (∀ b, b ≠ 1 → b ≠ 3 → b ≠ t + 6 → b ≠ t + 7 → b ≠ t + 8 → I1 b = I b) → (∀ b, b ≠ 1 → J1 b = J b) → (∀ b, b ≠ 1 → R1 b = R b) → (∀ i, i ≠ 5 → R1 1 i = R 1 i) → hs_Rd I1 J1 R1 f n (if Z.1 = 0 then (0, Z.2.1) else fl f n Z.1 (0, Z.2.1)) → hs_Ls I1 t Z.2.2 → hn_B 4 hm_Reader_readLulls P 38 [.ref 3, .ref t, .null] [] (I1, J1, R1) := by
      intro I1 J1 R1 gI gJ gR gR1 k1 l1
      refine b_aload_n rfl rfl ?_
      refine b_callV rfl rfl hk_Reader_takeEnd rfl rfl rfl (by first | rfl | assumption) rfl (Nat.le_of_ble_eq_true rfl) (q_Reader_takeEnd k1) (Nat.le_of_ble_eq_true rfl) (fun r_39 D_39 q_39 => ?_)
      obtain ⟨rfl, I2, J2, R2, rfl, g2, k2⟩ := q_39
      refine b_aload_n rfl rfl ?_
      refine b_iconst rfl ?_
      refine b_putI rfl (by first | rfl | assumption) rfl rfl ⟨rfl, rfl⟩ ?_
      exact b_return_ rfl trivial ((by rw [hP]; exact ⟨rfl, _, _, _, rfl, ⟨fun b b1 b3 b0 b6 b7 b8 => by rw [hn_u_ne _ _ _ b0, g2.1 b b1 b3, gI b b1 b3 b6 b7 b8], fun i hi => by rw [hn_u_eq, va_up, if_neg hi, g2.1 t (by omega) (by omega), gI t (by omega) (by omega) (by omega) (by omega) (by omega)], fun b b1 => by rw [g2.2.1 b b1, gJ b b1], fun b b1 => by rw [g2.2.2.1 b b1, gR b b1], fun i hi => by rw [g2.2.2.2 i hi, gR1 i hi]⟩, hs_Rd_I k2 (hn_u_ne _ _ _ (by omega)) (hn_u_ne _ _ _ (by omega)) (hn_u_ne _ _ _ (by omega)), fun _ => ⟨by rw [hn_u_eq, va_up, if_pos rfl], by rw [hn_u_ne _ _ _ (by omega), g2.1 (t + 6) (by omega) (by omega)]; exact l1.1, by rw [hn_u_ne _ _ _ (by omega), g2.1 (t + 7) (by omega) (by omega)]; exact l1.2.2.2.2.2.1, l1.2.2.2.2.2.2.2⟩⟩))
    refine b_aload_n rfl rfl ?_
    refine b_aload_n rfl rfl ?_
    refine b_getI rfl (by first | rfl | assumption) rfl ?_
    refine b_iconst rfl ?_
    refine b_callV rfl rfl hk_Reader_takeUnless rfl rfl rfl (by first | rfl | assumption) rfl (Nat.le_of_ble_eq_true rfl) (q_Reader_takeUnless (c := 3) h h0 hb (by omega)) (Nat.le_of_ble_eq_true rfl) (fun r_6 D_6 q_6 => ?_)
    obtain ⟨rfl, I1, J1, R1, rfl, g1, k1⟩ := q_6
    rw [e1] at k1
    have f1 := k1.2.2.2.2.1
    have hN1 := hs_Net_rf hN0 g1
    obtain ⟨tt5, tn0, tn1, tn2, tn3, tn4, tn5, tn6, tn7, tn8, tn9, tn10, ts1, ts2, ts3, ts4, ts5, ts7, ts8, tl0, tl2, tl6, tl7⟩ := id hN1
    refine b_aload_n rfl rfl ?_
    refine b_getI rfl (by first | rfl | assumption) rfl ?_
    rw [f1]
    refine b_if_eq rfl (fun c_13 => ?_) (fun c_13 => ?_)
    · refine b_aload_n rfl rfl ?_
      refine b_getR rfl (by first | rfl | assumption) rfl (by assumption) ?_
      refine b_aload_n rfl rfl ?_
      refine b_getR rfl (by first | rfl | assumption) rfl k1.2.1 ?_
      refine b_callV rfl rfl hk_Lulls_read rfl rfl rfl (by first | rfl | assumption) rfl (Nat.le_of_ble_eq_true rfl) (q_Lulls_read (k0 := s.2 + 1) k1 hN1) (Nat.le_of_ble_eq_true rfl) (fun r_25 D_25 q_25 => ?_)
      obtain ⟨rfl, I2, J2, R2, rfl, g2, k2, l2⟩ := q_25
      rw [show l_rd (tq f n) 1001 (s.2 + 1) true ([], 0, 0, []) = Z from hZ.symm] at k2 l2 ⊢
      have gI : ∀ b, b ≠ 1 → b ≠ 3 → b ≠ t + 6 → b ≠ t + 7 → b ≠ t + 8 → I2 b = I b := fun b b1 b3 b6 b7 b8 => by rw [g2.1 b b1 b6 b7 b8, g1.1 b b1 b3]
      have gJ : ∀ b, b ≠ 1 → J2 b = J b := fun b b1 => by rw [g2.2.1 b b1, g1.2.1 b b1]
      have gR : ∀ b, b ≠ 1 → R2 b = R b := fun b b1 => by rw [g2.2.2.1 b b1, g1.2.2.1 b b1]
      have gR1 : ∀ i, i ≠ 5 → R2 1 i = R 1 i := fun i hi => by rw [g2.2.2.2 i hi, g1.2.2.2 i hi]
      refine b_istore_n rfl (Nat.le_of_ble_eq_true rfl) ?_
      refine b_iload_n rfl rfl ?_
      refine b_if_eq rfl (fun c_30 => ?_) (fun c_30 => ?_)
      · first | exact b_lp (S38 I2 J2 R2 gI gJ gR gR1 (by rw [if_pos ((hi_nIe (k := 0) (by omega) (by omega)).mp c_30)]; exact k2) l2) (le_e (le_e (le_n le_0))) rfl rfl | exact b_lp (S38 I3 J3 R3 (fun b b1 b3 b6 b7 b8 => by rw [g3.1 b b1 b3, gI b b1 b3 b6 b7 b8]) (fun b b1 => by rw [g3.2.1 b b1, gJ b b1]) (fun b b1 => by rw [g3.2.2.1 b b1, gR b b1]) (fun i hi => by rw [g3.2.2.2 i hi, gR1 i hi]) (by rw [if_neg hz0]; exact k3) (by unfold hs_Ls hs_Lu; rw [g3.1 (t + 6) (by omega) (by omega), g3.1 (t + 7) (by omega) (by omega), g3.1 (t + 8) (by omega) (by omega)]; exact l2)) (le_e (le_e (le_n le_0))) rfl rfl
      · have hz0 : ¬ Z.1 = 0 := fun z => c_30 (by rw [z]; rfl)
        refine b_aload_n rfl rfl ?_
        refine b_iload_n rfl rfl ?_
        refine b_callV rfl rfl hk_Reader_fail rfl rfl rfl (by first | rfl | assumption) rfl (Nat.le_of_ble_eq_true rfl) (q_Reader_fail (c := Z.1) k2 hz5) (Nat.le_of_ble_eq_true rfl) (fun r_35 D_35 q_35 => ?_)
        obtain ⟨rfl, I3, J3, R3, rfl, g3, k3⟩ := q_35
        rw [show p_f f n Z.1 (0, Z.2.1) = fl f n Z.1 (0, Z.2.1) from if_pos rfl] at k3
        first | exact b_lp (S38 I2 J2 R2 gI gJ gR gR1 (by rw [if_pos ((hi_nIe (k := 0) (by omega) (by omega)).mp c_30)]; exact k2) l2) (le_e (le_e (le_n le_0))) rfl rfl | exact b_lp (S38 I3 J3 R3 (fun b b1 b3 b6 b7 b8 => by rw [g3.1 b b1 b3, gI b b1 b3 b6 b7 b8]) (fun b b1 => by rw [g3.2.1 b b1, gJ b b1]) (fun b b1 => by rw [g3.2.2.1 b b1, gR b b1]) (fun i hi => by rw [g3.2.2.2 i hi, gR1 i hi]) (by rw [if_neg hz0]; exact k3) (by unfold hs_Ls hs_Lu; rw [g3.1 (t + 6) (by omega) (by omega), g3.1 (t + 7) (by omega) (by omega), g3.1 (t + 8) (by omega) (by omega)]; exact l2)) (le_e (le_e (le_n le_0))) rfl rfl
    · exact absurd rfl c_13
end HNreadlulls
