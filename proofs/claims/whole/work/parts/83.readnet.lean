section HNreadnet
variable {I I' : Nat → Nat → Int32} {J J' : Nat → Nat → Int64} {R R' : Nat → Nat → Option Nat}
theorem p_pr_1 {f : Nat → Nat} {n kn : Nat} {nm : Nat → Nat} {g : Nat → Int32} {m : Int32} {s : rd} (h : (p_pr f n nm kn g m s).1 = 0) (h8 : kn ≤ 8) : ∃ a b, o_k f n nm kn (0, s.2 + 1) = some a ∧ a < kn ∧ o_k f n nm kn (0, s.2 + 2) = some b ∧ b < kn ∧ ¬ b = a ∧ ¬ sp_bit (g a) b ∧ p_p1 f n g m s = (0, s.2 + 1) ∧ p_kt f n nm kn (0, s.2 + 1) = (0, s.2 + 2) ∧ p_pr f n nm kn g m s = (0, s.2 + 4) ∧ ¬ m ≤ sp_cnt g := by
  have a1 := p_e_1 h
  have a2 := p_o_1 a1.1
  have a3 := p_kt_1 a2.1.1
  have a4 := p_u_1 (by omega) a3.1.1
  have e1 : p_p1 f n g m s = (0, s.2 + 1) := a4.2
  rw [e1] at a1 a2 a3
  rw [a3.2.2] at a1 a2
  obtain ⟨a, ha, hak⟩ := a3.2.1
  rw [ha] at a1 a2
  obtain ⟨b, hb, hbk, hba, hbb⟩ := a2.2.1
  rw [a2.2.2] at a1
  refine ⟨a, b, ha, hak, hb, hbk, fun z => hba (by rw [z]; rfl), hbb, e1, a3.2.2, ?_, a4.1⟩
  unfold p_pr
  rw [e1, a3.2.2, ha, a2.2.2, a1.2.2]
theorem pw_m {a b : Nat} (h : a ≤ b) {x : Int32} (hx : ∃ i : Nat, i < 2 ^ a ∧ x = nI i) : ∃ i : Nat, i < 2 ^ b ∧ x = nI i := sp_lt_mono h hx
theorem hs_Bw_k {B : sp_B} (h : hs_Bw B) {nm kd hd : Nat} (h8 : bK B < 8) (hk : kd ≤ 3) (hh : hd ≤ 20) : hs_Bw (b_k B nm kd hd) := by
  obtain ⟨s1, s2, s3, a1, a2, p, k, k8, p4⟩ := h
  refine ⟨fun i hi => ?_, fun i hi => s2 i (by have : bK B + 1 ≤ i := hi; omega), s3, fun i hi => ?_, fun i hi => a2 i (by have : bK B + 1 ≤ i := hi; omega), fun i hi => ⟨(p i hi).1, Nat.lt_succ_of_lt (p i hi).2⟩, fun i hi => ?_, h8, p4⟩
  · have hi : i < bK B + 1 := hi
    show sp_lt (bK B + 1) (bSt B i)
    by_cases hk : i < bK B
    · exact sp_lt_mono (by omega) (s1 i hk)
    · rw [s2 i (by omega)]; exact sp_lt_0
  · have hi : i < bK B + 1 := hi
    show sp_lt (bK B + 1) (bAg B i)
    by_cases hk : i < bK B
    · exact sp_lt_mono (by omega) (a1 i hk)
    · rw [a2 i (by omega)]; exact sp_lt_0
  · have hi : i < bK B + 1 := hi
    show upN (bKd B) (bK B) kd i ≤ 3 ∧ upN (bHd B) (bK B) hd i ≤ 20
    unfold upN
    by_cases hk : i = bK B
    · rw [if_pos hk, if_pos hk]; exact ⟨by assumption, hh⟩
    · rw [if_neg hk, if_neg hk]; exact k i (by omega)
theorem hs_Bw_s {B : sp_B} (h : hs_Bw B) {a b : Nat} (ha : a < bK B) (hb : b < bK B) (hab : ¬ b = a) : hs_Bw (b_s B a b) := by
  obtain ⟨s1, s2, s3, a1, a2, p, k, k8, p4⟩ := h
  refine ⟨fun i hi => ?_, fun i hi => ?_, fun i hi => ?_, a1, a2, p, k, k8, p4⟩
  · have hi : i < bK B := hi
    show sp_lt (bK B) (va_up (bSt B) a (bSt B a ||| ((1 : Int32) <<< (nI b &&& 31))) i)
    unfold va_up
    by_cases hk : i = a
    · rw [if_pos hk]; exact sp_lt_or (s1 a ha) (sp_lt_shl hb (by omega))
    · rw [if_neg hk]; exact s1 i hi
  · have hi : bK B ≤ i := hi
    show va_up (bSt B) a (bSt B a ||| ((1 : Int32) <<< (nI b &&& 31))) i = 0
    rw [va_up, if_neg (by omega)]
    exact s2 i hi
  · show ¬ sp_bit (va_up (bSt B) a (bSt B a ||| ((1 : Int32) <<< (nI b &&& 31))) i) i
    unfold va_up
    by_cases hk : i = a
    · rw [if_pos hk, sp_bit_or (by omega), sp_bit_1 (by omega) (by omega), hk]
      have := s3 a (by omega)
      exact fun z => z.elim this (fun y => hab y.symm)
    · rw [if_neg hk]; exact s3 i hi
theorem hs_Bw_a {B : sp_B} (h : hs_Bw B) {a b : Nat} (ha : a < bK B) (hb : b < bK B) : hs_Bw (b_a B a b) := by
  obtain ⟨s1, s2, s3, a1, a2, p, k, k8, p4⟩ := h
  refine ⟨s1, s2, s3, fun i hi => ?_, fun i hi => ?_, p, k, k8, p4⟩
  · have hi : i < bK B := hi
    show sp_lt (bK B) (va_up (bAg B) a (bAg B a ||| ((1 : Int32) <<< (nI b &&& 31))) i)
    unfold va_up
    by_cases hk : i = a
    · rw [if_pos hk]; exact sp_lt_or (a1 a ha) (sp_lt_shl hb (by omega))
    · rw [if_neg hk]; exact a1 i hi
  · have hi : bK B ≤ i := hi
    show va_up (bAg B) a (bAg B a ||| ((1 : Int32) <<< (nI b &&& 31))) i = 0
    rw [va_up, if_neg (by omega)]
    exact a2 i hi
theorem hs_Bw_p {B : sp_B} (h : hs_Bw B) {nm wl pl : Nat} (h4 : bP B < 4) (hw : wl ≤ 40) (hl : pl < bK B) : hs_Bw (b_p B nm wl pl) := by
  obtain ⟨s1, s2, s3, a1, a2, p, k, k8, p4⟩ := h
  refine ⟨s1, s2, s3, a1, a2, fun i hi => ?_, k, k8, h4⟩
  have hi : i < bP B + 1 := hi
  show upN (bWl B) (bP B) wl i ≤ 40 ∧ upN (bPl B) (bP B) pl i < bK B
  unfold upN
  by_cases hk : i = bP B
  · rw [if_pos hk, if_pos hk]; exact ⟨hw, hl⟩
  · rw [if_neg hk, if_neg hk]; exact p i (by omega)
theorem hs_Bw_b8 {B : sp_B} (h : hs_Bw B) : hs_b8 (bSt B) ∧ hs_b8 (bAg B) := by
  obtain ⟨s1, s2, s3, a1, a2, p, k, k8, p4⟩ := h
  refine ⟨fun i hi => ?_, fun i hi => ?_⟩
  · by_cases hk : i < bK B
    · obtain ⟨j, hj, e⟩ := s1 i hk
      exact ⟨⟨j, by have := (pw8 k8).2; omega⟩, e⟩
    · exact ⟨⟨0, by omega⟩, s2 i (by omega)⟩
  · by_cases hk : i < bK B
    · obtain ⟨j, hj, e⟩ := a1 i hk
      exact ⟨⟨j, by have := (pw8 k8).2; omega⟩, e⟩
    · exact ⟨⟨0, by omega⟩, a2 i (by omega)⟩
/-- nothing behind the ends of a Net's rows -/
def hs_zn (I : Nat → Nat → Int32) (t : Nat) : Prop := hs_z I (t + 11) ∧ ∀ i, 8 ≤ i → I (t + 4) i = 0
theorem hs_zn_of {t : Nat} {B : sp_B} (h : hs_Bx I J t B) (hw : hs_Bw B) : hs_zn I t := by
  obtain ⟨hn, ⟨b1, b2, b3⟩, ⟨p1, p2, p3, p4, p5, p6, p7⟩, hl⟩ := h
  obtain ⟨s1, s2, s3, a1, a2, p, k, k8, pp4⟩ := hw
  exact ⟨⟨fun i hi => by rw [b2]; exact s2 i (by omega), fun i hi => ⟨p2 i (by omega), p4 i hi, p5 i⟩⟩, fun i hi => by rw [b3]; exact a2 i (by omega)⟩
theorem hs_zn_c {t : Nat} (h : hs_zn I t) (g : ∀ b, t ≤ b → b ≤ t + 15 → b ≠ t → b ≠ t + 6 → b ≠ t + 7 → b ≠ t + 8 → I' b = I b) : hs_zn I' t := by
  unfold hs_zn hs_z at h ⊢
  rw [g (t + 11 + 1) (by omega) (by omega) (by omega) (by omega) (by omega) (by omega), g (t + 11 + 2) (by omega) (by omega) (by omega) (by omega) (by omega) (by omega), g (t + 11 + 3) (by omega) (by omega) (by omega) (by omega) (by omega) (by omega), g (t + 11 + 4) (by omega) (by omega) (by omega) (by omega) (by omega) (by omega), g (t + 4) (by omega) (by omega) (by omega) (by omega) (by omega) (by omega)]
  exact h
theorem hs_Bx_0 {t : Nat} {I2 : Nat → Nat → Int32} (hz : hs_zn I t) (h : hs_nc I I2 t) : hs_Bx I2 J t b_0 ∧ hs_Bw b_0 ∧ hs_zn I2 t := by
  obtain ⟨hf, h0, h6, hl1, hl0, h2, h3, h4, I1, f1, I3, ⟨c0, c4, c5, c6, d1, d2, d3, d4⟩, f3⟩ := h
  obtain ⟨⟨z1, z2⟩, z4⟩ := hz
  have w : hs_Bw b_0 := ⟨fun k hk => absurd hk (Nat.not_lt_zero _), fun _ _ => rfl, fun k hk => sp_bit_0 (by omega), fun k hk => absurd hk (Nat.not_lt_zero _), fun _ _ => rfl, fun k hk => absurd hk (Nat.not_lt_zero _), fun k hk => absurd hk (Nat.not_lt_zero _), Nat.zero_le _, Nat.zero_le _⟩
  have x : hs_Bx I2 J t b_0 := by
    refine ⟨⟨h0, Nat.zero_le _, fun i hi => absurd hi (Nat.not_lt_zero _), by rw [f3 _ (by omega)]; exact c4, Nat.zero_le _, fun i hi => absurd hi (Nat.not_lt_zero _)⟩, ⟨fun i hi => absurd hi (Nat.not_lt_zero _), ?_, ?_⟩, ⟨fun i hi => absurd hi (Nat.not_lt_zero _), fun i _ => ?_, fun i _ hi => ?_, fun i hi => ?_, fun i => ?_, by rw [f3 _ (by omega)]; exact c5, by rw [f3 _ (by omega)]; exact c6⟩, h6, hl1, hl0⟩
    · funext i
      rw [f3 _ (by omega), d1]
      by_cases hi : i < 8
      · rw [if_pos hi]; rfl
      · rw [if_neg hi, f1 _ (by omega)]; exact z1 i (by omega)
    · funext i
      rw [h4]
      by_cases hi : i < 8
      · rw [if_pos hi]; rfl
      · rw [if_neg hi]; exact z4 i (by omega)
    · rw [f3 _ (by omega), d2]
      by_cases hi : i < 4
      · rw [if_pos hi]
      · rw [if_neg hi, f1 _ (by omega)]; exact (z2 i (by omega)).1
    · rw [f3 _ (by omega), d3, if_pos hi]
    · rw [f3 _ (by omega), d3, if_neg (by omega), f1 _ (by omega)]; exact (z2 i hi).2.1
    · rw [f3 _ (by omega), d4]
      by_cases hi : i < 4
      · rw [if_pos hi]
      · rw [if_neg hi, f1 _ (by omega)]; exact (z2 i (by omega)).2.2
  exact ⟨x, w, hs_zn_of x w⟩
theorem hs_Rd_IJ {f : Nat → Nat} {n : Nat} {s : rd} (h : hs_Rd I J R f n s) (g : ∀ b, b = 1 ∨ b = 2 ∨ b = 3 → I' b = I b) (gJ : J' 1 = J 1) : hs_Rd I' J' R f n s := by
  obtain ⟨h1, h2, h3, h4, h5, h6⟩ := h
  refine ⟨h1, h2, ⟨h3.1, fun i hi => by rw [g 2 (by omega)]; exact h3.2 i hi⟩, ?_, by rw [g 3 (by omega)]; exact h5, h6⟩
  unfold hs_Tk
  rw [g 1 (by omega), gJ]
  exact h4
/-- what a line of a net leaves -/
def hs_La (I : Nat → Nat → Int32) (J : Nat → Nat → Int64) (R : Nat → Nat → Option Nat) (t : Nat) (f : Nat → Nat) (n : Nat) (x : rd × sp_B) (D' : hnD) : Prop := ∃ I2 J2 R2, D' = (I2, J2, R2) ∧ hs_rn I J R I2 J2 R2 t ∧ hs_Rd I2 J2 R2 f n x.1 ∧ hs_zn I2 t ∧ (x.1.1 = 0 → hs_Bx I2 J2 t x.2 ∧ hs_Bw x.2)
theorem hs_zn_rf {t : Nat} (z1 : hs_zn I t) (ht : t = 4 ∨ t = 20) (g : hs_rf I J R I' J' R') : hs_zn I' t := hs_zn_c z1 (fun b h1 h2 _ _ _ _ => g.1 b (by omega) (by omega))
theorem ln_2 {f : Nat → Nat} {n t : Nat} {s : rd} {B : sp_B} (k1 : hs_Rd I J R f n s) (hc0 : s.1 = 0) (hN : hs_Net R t) (hSt : hs_St R (t + 11)) (bx : hs_Bx I J t B) (bw : hs_Bw B) (z1 : hs_zn I t) (w2 : wx (tq f n s.2) = 2) : hn_F 4 hm_Reader_readKnot [.ref 3, .ref t] (I, J, R) (fun r D' => r = none ∧ hs_La I J R t f n (p_ln f n (s, B)) D') := by
  have hl : p_ln f n (s, B) = (p_kn f n (bNm B) (bK B) (bPm B) (bP B) s, b_k B (tq f n (s.2 + 1)).2.2.2 (wx (tq f n (s.2 + 2)) - 15) (tq f n (s.2 + 4)).2.2.2) := if_pos w2
  rw [hl]
  have ht := hN.1
  refine (q_Reader_readKnot k1 hc0 hN hSt bx.1).mono (fun r D' hq => ?_)
  obtain ⟨rfl, I2, J2, R2, g2, k2, e⟩ := hq
  refine ⟨rfl, ?_⟩
  have zz := hs_zn_rf z1 ht g2
  have bx2 := hs_Bx_rf bx ht g2
  have gg := hs_rn_rf (t := t) g2
  by_cases hz0 : (p_kn f n (bNm B) (bK B) (bPm B) (bP B) s).1 = 0
  · rw [if_pos hz0] at e
    have hl1 := p_kn_1 hz0
    have hv := (tq_v k1.2.2.1 (s.2 + 1)).1 hl1.2.1.2.1
    have bx3 := hs_Bx_k (kd := wx (tq f n (s.2 + 2)) - 15) (hd := (tq f n (s.2 + 4)).2.2.2) bx2 hl1.1 hv
    have bw3 := hs_Bw_k (nm := (tq f n (s.2 + 1)).2.2.2) (kd := wx (tq f n (s.2 + 2)) - 15) bw hl1.1 (by have := hl1.2.2.1; omega) hl1.2.2.2.2.1
    refine ⟨_, _, _, e, ⟨fun b b1 b3 bt => ?_, fun b b1 bt b5 => ?_, gg.2.2⟩, hs_Rd_IJ k2 (fun b hb => ?_) (hn_u_ne _ _ _ (by omega)), hs_zn_of bx3 bw3, fun _ => ⟨bx3, bw3⟩⟩
    · rw [hn_u_ne _ _ _ (by omega), hn_u_ne _ _ _ (by omega), hn_u_ne _ _ _ (by omega)]; exact gg.1 b b1 b3 bt
    · rw [hn_u_ne _ _ _ bt]; exact gg.2.1 b b1 bt b5
    · rw [hn_u_ne _ _ _ (by omega), hn_u_ne _ _ _ (by omega), hn_u_ne _ _ _ (by omega)]
  · rw [if_neg hz0] at e
    exact ⟨_, _, _, e, gg, k2, zz, fun z => absurd z hz0⟩
theorem ln_4 {f : Nat → Nat} {n t : Nat} {s : rd} {B : sp_B} (k1 : hs_Rd I J R f n s) (hc0 : s.1 = 0) (hN : hs_Net R t) (hSt : hs_St R (t + 11)) (bx : hs_Bx I J t B) (bw : hs_Bw B) (z1 : hs_zn I t) (w2 : ¬ wx (tq f n s.2) = 2) (w4 : wx (tq f n s.2) = 4) : hn_F 4 hm_Reader_readPair [.ref 3, .ref t, .ref (t + 11 + 1), .int 16] (I, J, R) (fun r D' => r = none ∧ hs_La I J R t f n (p_ln f n (s, B)) D') := by
  have hl : p_ln f n (s, B) = (p_pr f n (bNm B) (bK B) (bSt B) 16 s, b_s B ((o_k f n (bNm B) (bK B) (0, s.2 + 1)).getD 0) ((o_k f n (bNm B) (bK B) (0, s.2 + 2)).getD 0)) := (if_neg w2).trans (if_pos w4)
  have ht := hN.1
  have e2 := bx.2.1.2.1
  have h0 := q_Reader_readPair (q := t + 11 + 1) (m := 16) k1 hc0 hN bx.1 hSt.2.2.1 ⟨by omega, by omega⟩ (by rw [e2]; exact (hs_Bw_b8 bw).1)
  rw [e2] at h0
  refine h0.mono (fun r D' hq => ?_)
  obtain ⟨rfl, I2, J2, R2, g2, k2, e⟩ := hq
  refine ⟨rfl, ?_⟩
  have zz := hs_zn_rf z1 ht g2
  have bx2 := hs_Bx_rf bx ht g2
  have gg := hs_rn_rf (t := t) g2
  by_cases hz0 : (p_pr f n (bNm B) (bK B) (bSt B) 16 s).1 = 0
  · rw [if_pos hz0] at e
    obtain ⟨a, b, oa, ha, ob, hb, hba, hbb, e1, e3, _, _⟩ := p_pr_1 hz0 bw.2.2.2.2.2.2.2.1
    rw [e1, e3, oa, ob] at e
    rw [oa, ob] at hl
    rw [hl]
    have bx3 := hs_Bx_s (a := a) (b := b) bx2
    have bw3 := hs_Bw_s bw ha hb hba
    refine ⟨_, _, _, e, ⟨fun b b1 b3 bt => ?_, gg.2⟩, hs_Rd_I k2 (hn_u_ne _ _ _ (by omega)) (hn_u_ne _ _ _ (by omega)) (hn_u_ne _ _ _ (by omega)), hs_zn_of bx3 bw3, fun _ => ⟨bx3, bw3⟩⟩
    rw [hn_u_ne _ _ _ (by omega)]; exact gg.1 b b1 b3 bt
  · rw [if_neg hz0] at e
    rw [hl]
    exact ⟨_, _, _, e, gg, k2, zz, fun z => absurd z hz0⟩
theorem ln_5 {f : Nat → Nat} {n t : Nat} {s : rd} {B : sp_B} (k1 : hs_Rd I J R f n s) (hc0 : s.1 = 0) (hN : hs_Net R t) (hSt : hs_St R (t + 11)) (bx : hs_Bx I J t B) (bw : hs_Bw B) (z1 : hs_zn I t) (w2 : ¬ wx (tq f n s.2) = 2) (w4 : ¬ wx (tq f n s.2) = 4) (w5 : wx (tq f n s.2) = 5) : hn_F 4 hm_Reader_readPair [.ref 3, .ref t, .ref (t + 4), .int 12] (I, J, R) (fun r D' => r = none ∧ hs_La I J R t f n (p_ln f n (s, B)) D') := by
  have hl : p_ln f n (s, B) = (p_pr f n (bNm B) (bK B) (bAg B) 12 s, b_a B ((o_k f n (bNm B) (bK B) (0, s.2 + 1)).getD 0) ((o_k f n (bNm B) (bK B) (0, s.2 + 2)).getD 0)) := ((if_neg w2).trans (if_neg w4)).trans (if_pos w5)
  have ht := hN.1
  have e2 := bx.2.1.2.2
  have h0 := q_Reader_readPair (q := t + 4) (m := 12) k1 hc0 hN bx.1 hN.2.2.2.2.2.1 ⟨by omega, by omega⟩ (by rw [e2]; exact (hs_Bw_b8 bw).2)
  rw [e2] at h0
  refine h0.mono (fun r D' hq => ?_)
  obtain ⟨rfl, I2, J2, R2, g2, k2, e⟩ := hq
  refine ⟨rfl, ?_⟩
  have zz := hs_zn_rf z1 ht g2
  have bx2 := hs_Bx_rf bx ht g2
  have gg := hs_rn_rf (t := t) g2
  by_cases hz0 : (p_pr f n (bNm B) (bK B) (bAg B) 12 s).1 = 0
  · rw [if_pos hz0] at e
    obtain ⟨a, b, oa, ha, ob, hb, hba, hbb, e1, e3, _, _⟩ := p_pr_1 hz0 bw.2.2.2.2.2.2.2.1
    rw [e1, e3, oa, ob] at e
    rw [oa, ob] at hl
    rw [hl]
    have bx3 := hs_Bx_a (a := a) (b := b) bx2
    have bw3 := hs_Bw_a bw ha hb
    refine ⟨_, _, _, e, ⟨fun b b1 b3 bt => ?_, gg.2⟩, hs_Rd_I k2 (hn_u_ne _ _ _ (by omega)) (hn_u_ne _ _ _ (by omega)) (hn_u_ne _ _ _ (by omega)), hs_zn_of bx3 bw3, fun _ => ⟨bx3, bw3⟩⟩
    rw [hn_u_ne _ _ _ (by omega)]; exact gg.1 b b1 b3 bt
  · rw [if_neg hz0] at e
    rw [hl]
    exact ⟨_, _, _, e, gg, k2, zz, fun z => absurd z hz0⟩
theorem ln_6 {f : Nat → Nat} {n t : Nat} {s : rd} {B : sp_B} (k1 : hs_Rd I J R f n s) (hc0 : s.1 = 0) (hN : hs_Net R t) (hSt : hs_St R (t + 11)) (bx : hs_Bx I J t B) (bw : hs_Bw B) (z1 : hs_zn I t) (w2 : ¬ wx (tq f n s.2) = 2) (w4 : ¬ wx (tq f n s.2) = 4) (w5 : ¬ wx (tq f n s.2) = 5) (w6 : wx (tq f n s.2) = 6) : hn_F 4 hm_Reader_readPerson [.ref 3, .ref t] (I, J, R) (fun r D' => r = none ∧ hs_La I J R t f n (p_ln f n (s, B)) D') := by
  have hl : p_ln f n (s, B) = (p_pn f n (bNm B) (bK B) (bPm B) (bP B) s, b_p B (tq f n (s.2 + 1)).2.2.2 (tq f n (s.2 + 3)).2.2.2 ((o_k f n (bNm B) (bK B) (0, s.2 + 5)).getD 0)) := (((if_neg w2).trans (if_neg w4)).trans (if_neg w5)).trans (if_pos w6)
  have ht := hN.1
  refine (q_Reader_readPerson k1 hc0 hN hSt bx.1).mono (fun r D' hq => ?_)
  obtain ⟨rfl, I2, J2, R2, g2, k2, e⟩ := hq
  refine ⟨rfl, ?_⟩
  have zz := hs_zn_rf z1 ht g2
  have bx2 := hs_Bx_rf bx ht g2
  have gg := hs_rn_rf (t := t) g2
  by_cases hz0 : (p_pn f n (bNm B) (bK B) (bPm B) (bP B) s).1 = 0
  · rw [if_pos hz0] at e
    have hl1 := p_pn_1 hz0
    obtain ⟨pl, opl, hpl⟩ := hl1.2.2.2.2.1
    rw [opl] at e hl
    rw [hl]
    have hv := (tq_v k1.2.2.1 (s.2 + 1)).1 hl1.2.1.2.1
    have bx3 := hs_Bx_p (wl := (tq f n (s.2 + 3)).2.2.2) (pl := pl) bx2 hl1.1 hv
    have bw3 := hs_Bw_p (nm := (tq f n (s.2 + 1)).2.2.2) bw hl1.1 hl1.2.2.2.1 hpl
    refine ⟨_, _, _, e, ⟨fun b b1 b3 bt => ?_, fun b b1 bt b5 => ?_, gg.2.2⟩, hs_Rd_IJ k2 (fun b hb => ?_) (hn_u_ne _ _ _ (by omega)), hs_zn_of bx3 bw3, fun _ => ⟨bx3, bw3⟩⟩
    · rw [hn_u_ne _ _ _ (by omega), hn_u_ne _ _ _ (by omega), hn_u_ne _ _ _ (by omega)]; exact gg.1 b b1 b3 bt
    · rw [hn_u_ne _ _ _ b5]; exact gg.2.1 b b1 bt b5
    · rw [hn_u_ne _ _ _ (by omega), hn_u_ne _ _ _ (by omega), hn_u_ne _ _ _ (by omega)]
  · rw [if_neg hz0] at e
    rw [hl]
    exact ⟨_, _, _, e, gg, k2, zz, fun z => absurd z hz0⟩
theorem ln_9 {f : Nat → Nat} {n t : Nat} {s : rd} {B : sp_B} (k1 : hs_Rd I J R f n s) (hc0 : s.1 = 0) (hN : hs_Net R t) (bx : hs_Bx I J t B) (bw : hs_Bw B) (z1 : hs_zn I t) (w2 : ¬ wx (tq f n s.2) = 2) (w4 : ¬ wx (tq f n s.2) = 4) (w5 : ¬ wx (tq f n s.2) = 5) (w6 : ¬ wx (tq f n s.2) = 6) (w9 : wx (tq f n s.2) = 9) : hn_F 4 hm_Reader_readLulls [.ref 3, .ref t] (I, J, R) (fun r D' => r = none ∧ hs_La I J R t f n (p_ln f n (s, B)) D') := by
  have hl : p_ln f n (s, B) = (p_lu f n (¬ bL B = none) s, b_l B (l_z f n s).2.2.2.2.2) := ((((if_neg w2).trans (if_neg w4)).trans (if_neg w5)).trans (if_neg w6)).trans (if_pos w9)
  rw [hl]
  have ht := hN.1
  have hfg : fg (¬ bL B = none) (I t 6) := by
    have h9 := bx.2.2.2
    unfold hs_Bl at h9
    rcases (show bL B = none ∨ ∃ C, bL B = some C by cases bL B with | none => exact Or.inl rfl | some C => exact Or.inr ⟨C, rfl⟩) with e | ⟨C, e⟩
    · rw [e] at h9 ⊢; exact Or.inr ⟨fun z => z rfl, h9.1⟩
    · rw [e] at h9 ⊢; exact Or.inl ⟨(fun z => by cases z), h9.1⟩
  refine (q_Reader_readLulls k1 hc0 hN hfg).mono (fun r D' hq => ?_)
  obtain ⟨rfl, I2, J2, R2, e, g2, k2, l2⟩ := hq
  refine ⟨rfl, I2, J2, R2, e, ⟨fun b b1 b3 bt => g2.1 b b1 b3 (by omega) (by omega) (by omega) (by omega), fun b b1 bt b5 => g2.2.2.1 b b1, g2.2.2.2⟩, k2, hs_zn_c z1 (fun b h1 h2 b0 b6 b7 b8 => g2.1 b (by omega) (by omega) b0 b6 b7 b8), fun z => ⟨hs_Bx_l bx ht g2 (l2 z), bw⟩⟩
theorem ln_n {f : Nat → Nat} {n t : Nat} {s : rd} {B : sp_B} (k1 : hs_Rd I J R f n s) (hc0 : s.1 = 0) (ht : t = 4 ∨ t = 20) (z1 : hs_zn I t) (w2 : ¬ wx (tq f n s.2) = 2) (w4 : ¬ wx (tq f n s.2) = 4) (w5 : ¬ wx (tq f n s.2) = 5) (w6 : ¬ wx (tq f n s.2) = 6) (w9 : ¬ wx (tq f n s.2) = 9) : hn_F 0 hm_Reader_fail [.ref 3, .int (nI 1)] (I, J, R) (fun r D' => r = none ∧ hs_La I J R t f n (p_ln f n (s, B)) D') := by
  have hl : p_ln f n (s, B) = (fl f n 1 s, B) := ((((if_neg w2).trans (if_neg w4)).trans (if_neg w5)).trans (if_neg w6)).trans (if_neg w9)
  have e3 : p_f f n 1 s = fl f n 1 s := if_pos hc0
  rw [hl]
  refine (q_Reader_fail (c := 1) k1 (by omega)).mono (fun r D' hq => ?_)
  obtain ⟨rfl, hq⟩ := hq
  rw [e3] at hq
  obtain ⟨I2, J2, R2, e, g2, k2⟩ := hq
  exact ⟨rfl, I2, J2, R2, e, hs_rn_rf g2, k2, hs_zn_rf z1 ht g2, fun z => absurd z (fl_ne (by omega))⟩
end HNreadnet
