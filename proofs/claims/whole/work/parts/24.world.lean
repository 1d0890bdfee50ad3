section HNworld
variable {I : Nat → Nat → Int32} {J : Nat → Nat → Int64} {R : Nat → Nat → Option Nat}
/-- the references that never change -/
def hn_reft : List (Nat × Nat × Nat) := [(0, 0, 1), (0, 1, 3), (0, 6, 44), (0, 7, 49), (0, 8, 54), (0, 11, 135), (0, 12, 139), (0, 13, 140), (0, 14, 141), (0, 15, 178), (0, 16, 183), (0, 17, 186), (0, 18, 187), (1, 0, 2), (3, 0, 1), (4, 1, 5), (4, 2, 6), (4, 3, 7), (4, 4, 8), (4, 5, 9), (4, 7, 10), (4, 8, 15), (10, 0, 11), (10, 2, 12), (10, 6, 13), (10, 7, 14), (15, 0, 16), (15, 1, 17), (15, 2, 18), (15, 3, 19), (20, 1, 21), (20, 2, 22), (20, 3, 23), (20, 4, 24), (20, 5, 25), (20, 7, 26), (20, 8, 31), (26, 0, 27), (26, 2, 28), (26, 6, 29), (26, 7, 30), (31, 0, 32), (31, 1, 33), (31, 2, 34), (31, 3, 35), (36, 0, 37), (36, 1, 38), (36, 2, 39), (40, 0, 41), (40, 1, 42), (40, 2, 43), (44, 0, 45), (44, 1, 46), (44, 2, 47), (44, 3, 48), (49, 0, 50), (49, 1, 51), (49, 2, 52), (49, 3, 53), (54, 0, 55), (55, 0, 56), (55, 1, 57), (55, 2, 58), (55, 3, 59), (54, 1, 60), (60, 0, 61), (60, 1, 62), (60, 2, 63), (60, 3, 64), (54, 2, 65), (65, 0, 66), (65, 1, 67), (65, 2, 68), (65, 3, 69), (54, 3, 70), (70, 0, 71), (70, 1, 72), (70, 2, 73), (70, 3, 74), (54, 4, 75), (75, 0, 76), (75, 1, 77), (75, 2, 78), (75, 3, 79), (54, 5, 80), (80, 0, 81), (80, 1, 82), (80, 2, 83), (80, 3, 84), (54, 6, 85), (85, 0, 86), (85, 1, 87), (85, 2, 88), (85, 3, 89), (54, 7, 90), (90, 0, 91), (90, 1, 92), (90, 2, 93), (90, 3, 94), (54, 8, 95), (95, 0, 96), (95, 1, 97), (95, 2, 98), (95, 3, 99), (54, 9, 100), (100, 0, 101), (100, 1, 102), (100, 2, 103), (100, 3, 104), (54, 10, 105), (105, 0, 106), (105, 1, 107), (105, 2, 108), (105, 3, 109), (54, 11, 110), (110, 0, 111), (110, 1, 112), (110, 2, 113), (110, 3, 114), (54, 12, 115), (115, 0, 116), (115, 1, 117), (115, 2, 118), (115, 3, 119), (54, 13, 120), (120, 0, 121), (120, 1, 122), (120, 2, 123), (120, 3, 124), (54, 14, 125), (125, 0, 126), (125, 1, 127), (125, 2, 128), (125, 3, 129), (54, 15, 130), (130, 0, 131), (130, 1, 132), (130, 2, 133), (130, 3, 134), (135, 2, 136), (135, 3, 137), (135, 4, 138), (139, 0, 142), (140, 0, 147), (142, 0, 143), (142, 1, 144), (142, 2, 145), (142, 3, 146), (147, 2, 148), (147, 3, 149), (147, 4, 150), (139, 1, 151), (140, 1, 156), (151, 0, 152), (151, 1, 153), (151, 2, 154), (151, 3, 155), (156, 2, 157), (156, 3, 158), (156, 4, 159), (139, 2, 160), (140, 2, 165), (160, 0, 161), (160, 1, 162), (160, 2, 163), (160, 3, 164), (165, 2, 166), (165, 3, 167), (165, 4, 168), (139, 3, 169), (140, 3, 174), (169, 0, 170), (169, 1, 171), (169, 2, 172), (169, 3, 173), (174, 2, 175), (174, 3, 176), (174, 4, 177), (178, 0, 179), (178, 1, 180), (178, 2, 181), (178, 3, 182), (183, 0, 184), (183, 1, 185), (188, 1, 189), (188, 4, 190), (188, 5, 191), (188, 6, 192), (188, 9, 193), (188, 10, 194), (188, 11, 195), (188, 12, 196), (188, 14, 197), (188, 15, 198), (188, 16, 199), (188, 17, 200), (188, 20, 201), (188, 21, 202), (188, 22, 203), (188, 23, 204), (188, 25, 205), (188, 27, 206), (188, 28, 207), (188, 29, 208), (188, 30, 209), (188, 31, 210), (188, 32, 211)]
def hs_refs (R : Nat → Nat → Option Nat) : Prop := ∀ x, x ∈ hn_reft → R x.1 x.2.1 = some x.2.2
def hs_sc : List Nat := [15, 31, 44, 49, 55, 60, 65, 70, 75, 80, 85, 90, 95, 100, 105, 110, 115, 120, 125, 130, 142, 151, 160, 169]
theorem hs_St_of {a : Nat} (hR : hs_refs R) (ha : a ∈ hs_sc) : hs_St R a := by
  have key : ∀ a, a ∈ hs_sc → ((a = 15 ∨ a = 31 ∨ (44 ≤ a ∧ a ≤ 169)) ∧ hn_kind a = (0, 5) ∧ hn_kind (a + 1) = (1, 8) ∧ hn_kind (a + 2) = (1, 4) ∧ hn_kind (a + 3) = (1, 4) ∧ hn_kind (a + 4) = (1, 4)) ∧ (a, 0, a + 1) ∈ hn_reft ∧ (a, 1, a + 2) ∈ hn_reft ∧ (a, 2, a + 3) ∈ hn_reft ∧ (a, 3, a + 4) ∈ hn_reft := by decide +kernel
  obtain ⟨⟨h1, h2, h3, h4, h5, h6⟩, g0, g1, g2, g3⟩ := key a ha
  exact ⟨h1, h2, h3, h4, h5, h6, hR _ g0, hR _ g1, hR _ g2, hR _ g3⟩
theorem hs_Net_of {t : Nat} (hR : hs_refs R) (ht : t = 4 ∨ t = 20) : hs_Net R t := by
  rcases ht with rfl | rfl
  · exact ⟨Or.inl rfl, rfl, rfl, rfl, rfl, rfl, rfl, rfl, rfl, rfl, rfl, rfl, hR (4, 1, 5) (by decide +kernel), hR (4, 2, 6) (by decide +kernel), hR (4, 3, 7) (by decide +kernel), hR (4, 4, 8) (by decide +kernel), hR (4, 5, 9) (by decide +kernel), hR (4, 7, 10) (by decide +kernel), hR (4, 8, 15) (by decide +kernel), hR (10, 0, 11) (by decide +kernel), hR (10, 2, 12) (by decide +kernel), hR (10, 6, 13) (by decide +kernel), hR (10, 7, 14) (by decide +kernel)⟩
  · exact ⟨Or.inr rfl, rfl, rfl, rfl, rfl, rfl, rfl, rfl, rfl, rfl, rfl, rfl, hR (20, 1, 21) (by decide +kernel), hR (20, 2, 22) (by decide +kernel), hR (20, 3, 23) (by decide +kernel), hR (20, 4, 24) (by decide +kernel), hR (20, 5, 25) (by decide +kernel), hR (20, 7, 26) (by decide +kernel), hR (20, 8, 31) (by decide +kernel), hR (26, 0, 27) (by decide +kernel), hR (26, 2, 28) (by decide +kernel), hR (26, 6, 29) (by decide +kernel), hR (26, 7, 30) (by decide +kernel)⟩
theorem hs_M_of (hR : hs_refs R) : hs_M R :=
  ⟨hR (188, 1, 189) (by decide +kernel), hR (188, 4, 190) (by decide +kernel), hR (188, 5, 191) (by decide +kernel), hR (188, 6, 192) (by decide +kernel), hR (188, 9, 193) (by decide +kernel), hR (188, 10, 194) (by decide +kernel), hR (188, 11, 195) (by decide +kernel), hR (188, 12, 196) (by decide +kernel), hR (188, 14, 197) (by decide +kernel), hR (188, 15, 198) (by decide +kernel), hR (188, 16, 199) (by decide +kernel), hR (188, 17, 200) (by decide +kernel), hR (188, 20, 201) (by decide +kernel), hR (188, 21, 202) (by decide +kernel), hR (188, 22, 203) (by decide +kernel), hR (188, 23, 204) (by decide +kernel), hR (188, 25, 205) (by decide +kernel), hR (188, 27, 206) (by decide +kernel), hR (188, 28, 207) (by decide +kernel), hR (188, 29, 208) (by decide +kernel), hR (188, 30, 209) (by decide +kernel), hR (188, 31, 210) (by decide +kernel), hR (188, 32, 211) (by decide +kernel)⟩
/-- a net: how many knots, persons; kinds, holds, against; the law's code -/
abbrev sp_N : Type := Nat × Nat × (Nat → Int32) × (Nat → Int32) × (Nat → Int32) × (Nat → Int32) × Nat
abbrev nK (N : sp_N) : Nat → Int32 := N.2.2.1
abbrev nH (N : sp_N) : Nat → Int32 := N.2.2.2.1
abbrev nA (N : sp_N) : Nat → Int32 := N.2.2.2.2.1
abbrev nC (N : sp_N) : Nat → Int32 := N.2.2.2.2.2.1
abbrev nS (N : sp_N) : Nat := N.2.2.2.2.2.2
abbrev nF (N : sp_N) : Int32 → Int32 → Int32 → Int32 → Int32 := sp_lf (nC N) (nS N)
/-- a state: strings, wills, places, shifts, hours gone -/
abbrev sp_Q : Type := (Nat → Int32) × (Nat → Int32) × (Nat → Int32) × (Nat → Int32) × Int32
abbrev qS (Q : sp_Q) : Nat → Int32 := Q.1
abbrev qW (Q : sp_Q) : Nat → Int32 := Q.2.1
abbrev qP (Q : sp_Q) : Nat → Int32 := Q.2.2.1
abbrev qH (Q : sp_Q) : Nat → Int32 := Q.2.2.2.1
abbrev qT (Q : sp_Q) : Int32 := Q.2.2.2.2
/-- a row of places; before the first net is told a State's is still 0, where nobody reads it -/
def hs_P3 (n np : Nat) (r pl : Nat → Int32) : Prop := r = pl ∨ (n = 0 ∧ np = 0 ∧ r = fun _ => 0)
theorem P3_n {n np : Nat} {r pl : Nat → Int32} (h : hs_P3 n np r pl) (h0 : 0 < n) : r = pl := h.resolve_right (fun z => by omega)
theorem P3_p {n np : Nat} {r pl : Nat → Int32} (h : hs_P3 n np r pl) (h0 : 0 < np) : r = pl := h.resolve_right (fun z => by omega)
theorem P3_e {n np : Nat} {r r2 pl : Nat → Int32} (e : r2 = r) (h : hs_P3 n np r pl) : hs_P3 n np r2 pl := e ▸ h
theorem P3_at {n np : Nat} {r pl : Nat → Int32} {v : Int32} (h : hs_P3 n np r pl) : sp_lyingAt r v np = sp_lyingAt pl v np := by
  rcases h with h | ⟨_, h, _⟩
  · rw [h]
  · rw [h]; rfl
theorem P3_lying {n np : Nat} {r pl : Nat → Int32} (h : hs_P3 n np r pl) : sp_lying r np = sp_lying pl np := by unfold sp_lying; rw [P3_at h]
theorem P3_awake {n np : Nat} {r pl w : Nat → Int32} (h : hs_P3 n np r pl) : sp_awake w r np = sp_awake w pl np := by
  rcases h with h | ⟨_, h, _⟩
  · rw [h]
  · rw [h]; rfl
def hs_Qx (I : Nat → Nat → Int32) (a n np : Nat) (fm : Int32) (Q : sp_Q) : Prop := I (a + 1) = qS Q ∧ I (a + 2) = qW Q ∧ hs_P3 n np (I (a + 3)) (qP Q) ∧ I (a + 4) = qH Q ∧ I a 4 = nI np ∧ I a 5 = qT Q ∧ I a 6 = fm
/-- the reference holds it from b on -/
def hs_Qm (I : Nat → Nat → Int32) (b : Nat) (Q : sp_Q) : Prop := hs_V I b (qS Q) (qW Q) (qP Q) (qH Q) ∧ I 204 b = qT Q
/-- it is one of n knots and np persons -/
def hs_Qw (n np : Nat) (Q : sp_Q) : Prop := hs_pl n (qP Q) ∧ (∀ k, k < n → ∃ i : Nat, i < 2 ^ n ∧ qS Q k = nI i) ∧ (∀ k, n ≤ k → qS Q k = 0) ∧ hs_ns (qS Q) ∧ (∀ p, p < np → ∃ i : Nat, i ≤ 40 ∧ qW Q p = nI i) ∧ (∀ p, np ≤ p → qW Q p = 0) ∧ (∀ p, np ≤ p → p < 4 → qP Q p = -1) ∧ (∀ p, 4 ≤ p → qP Q p = 0) ∧ ∀ p, np ≤ p → qH Q p = 0
/-- nothing behind the ends of a State's rows -/
def hs_z (I : Nat → Nat → Int32) (a : Nat) : Prop := (∀ i, 8 ≤ i → I (a + 1) i = 0) ∧ ∀ i, 4 ≤ i → I (a + 2) i = 0 ∧ I (a + 3) i = 0 ∧ I (a + 4) i = 0
theorem hs_z_of {a m n np : Nat} {fm : Int32} {Q : sp_Q} (hX : hs_Qx I a m np fm Q) (hw : hs_Qw n np Q) (hn : n ≤ 8) (hp : np ≤ 4) : hs_z I a := by
  obtain ⟨x1, x2, x3, x4, _⟩ := hX
  obtain ⟨_, _, w3, _, _, w6, _, w8, w9⟩ := hw
  exact ⟨fun i hi => by rw [x1]; exact w3 i (by omega), fun i hi => ⟨by rw [x2]; exact w6 i (by omega), by rcases x3 with x3 | ⟨_, _, x3⟩ <;> rw [x3]; exact w8 i hi, by rw [x4]; exact w9 i (by omega)⟩⟩
/-- a Net holds it -/
def hs_Nx (I : Nat → Nat → Int32) (t : Nat) (N : sp_N) : Prop := I t 0 = nI N.1 ∧ N.1 ≤ 8 ∧ N.2.1 ≤ 4 ∧ I (t + 2) = nK N ∧ I (t + 3) = nH N ∧ I (t + 4) = nA N ∧ hs_code I t (nS N) ∧ I (t + 7) = nC N
abbrev hs_Nm (I : Nat → Nat → Int32) (N : sp_N) : Prop := hs_MN I N.1 N.2.1 (nK N) (nH N) (nA N) ∧ hs_ML I (nC N) (nS N)
/-- an hour -/
def sp_hr (N : sp_N) (fm odd : Int32) (Q : sp_Q) : sp_Q × Int32 :=
  let T := sp_pass N.1 (nK N) (nH N) (nF N) fm (qS Q) N.2.1 odd (qW Q, qP Q, qH Q)
  ((qS Q, T.1.1, T.1.2.1, T.1.2.2, qT Q + 1), T.2)
/-- a shift -/
def sp_sh (N : sp_N) (fm : Int32) (Q : sp_Q) (p k : Nat) : sp_Q :=
  let T := sp_go (nK N) (nH N) (nF N) fm N.2.1 (qW Q, qP Q, qH Q) p k
  (qS Q, T.1, T.2.1, T.2.2, qT Q)
abbrev sp_shf (N : sp_N) (fm : Int32) (Q : sp_Q) (p k : Nat) : Prop := sp_gf (nK N) (nH N) (nF N) fm N.2.1 (qW Q, qP Q, qH Q) p k
theorem qx_hour {a t : Nat} {N : sp_N} {Q : sp_Q} {fm odd : Int32} (ha : hs_St R a) (ht : hs_Net R t) (hN : hs_Nx I t N) (hX : hs_Qx I a N.1 N.2.1 fm Q) (hpl : hs_pl N.1 (qP Q)) : hn_F 5 hm_State_passHour [.ref a, .ref t, .int odd] (I, J, R) (fun r D' => hs_fr I J R D' (fun b => hs_w a t b ∨ b = a) ∧ hs_Qx D'.1 a N.1 N.2.1 fm (sp_hr N fm odd Q).1 ∧ r = some (.int (sp_hr N fm odd Q).2)) := by
  obtain ⟨n0, n8, n4, nk, nh, na, hc, ncd⟩ := hN
  obtain ⟨x1, x2, x3, x4, x5, x6, x7⟩ := hX
  have ha5 := ha.1
  have ht5 := ht.1
  have hlf : hs_lf I t (nS N) = nF N := by unfold hs_lf; rw [ncd]
  rcases x3 with x3 | ⟨m0, p0, x3⟩
  · have hS : hs_S3 I a = (qW Q, qP Q, qH Q) := by simp only [hs_S3]; rw [x2, x3, x4]
    refine (q_State_passHour (odd := odd) ha ht hc n0 n8 x5 n4 (fun _ => by rw [x3]; exact hpl)).mono (fun r D' h => ?_)
    obtain ⟨hf, h1, h2, h3⟩ := h
    rw [nk, nh, hlf, x7, x1, hS] at h2 h3
    refine ⟨hf, ⟨?_, congrArg (fun z => z.1) h2, Or.inl (congrArg (fun z => z.2.1) h2), congrArg (fun z => z.2.2) h2, ?_, ?_, ?_⟩, h3⟩
    · rw [hf.2.2 (a + 1) (fun e => by omega), x1]; rfl
    · rw [h1]; exact x5
    · rw [h1, x6]; rfl
    · rw [h1]; exact x7
  · have hS : hs_S3 I a = (qW Q, I (a + 3), qH Q) := by simp only [hs_S3]; rw [x2, x4]
    have e0 : ∀ S, sp_pass N.1 (nK N) (nH N) (nF N) fm (qS Q) N.2.1 odd S = (S, 0) := fun S => by rw [p0]; rfl
    have e1 : sp_hr N fm odd Q = ((qS Q, qW Q, qP Q, qH Q, qT Q + 1), 0) := by unfold sp_hr; simp only [e0]
    refine (q_State_passHour (odd := odd) ha ht hc n0 n8 x5 n4 (fun z => absurd z (by omega))).mono (fun r D' h => ?_)
    obtain ⟨hf, h1, h2, h3⟩ := h
    rw [nk, nh, hlf, x7, x1, hS, e0] at h2 h3
    rw [e1]
    refine ⟨hf, ⟨?_, congrArg (fun z => z.1) h2, Or.inr ⟨m0, p0, (congrArg (fun z => z.2.1) h2).trans x3⟩, congrArg (fun z => z.2.2) h2, ?_, ?_, ?_⟩, h3⟩
    · rw [hf.2.2 (a + 1) (fun e => by omega), x1]
    · rw [h1]; exact x5
    · rw [h1, x6]; rfl
    · rw [h1]; exact x7
theorem qx_go {a t p k : Nat} {N : sp_N} {Q : sp_Q} {fm : Int32} (ha : hs_St R a) (ht : hs_Net R t) (hN : hs_Nx I t N) (hX : hs_Qx I a N.1 N.2.1 fm Q) (h0 : 0 < N.2.1) (hp : p < 4) (hk : k < 8) : hn_F 4 hm_State_go [.ref a, .ref t, .int (nI p), .int (nI k)] (I, J, R) (fun r D' => hs_fr I J R D' (hs_w a t) ∧ hs_Qx D'.1 a N.1 N.2.1 fm (sp_sh N fm Q p k) ∧ r = some (.int (if sp_shf N fm Q p k then 1 else 0))) := by
  obtain ⟨n0, n8, n4, nk, nh, na, hc, ncd⟩ := hN
  obtain ⟨x1, x2, x3, x4, x5, x6, x7⟩ := hX
  have ha5 := ha.1
  have ht5 := ht.1
  have hlf : hs_lf I t (nS N) = nF N := by unfold hs_lf; rw [ncd]
  have x3 := P3_p x3 h0
  have hS : hs_S3 I a = (qW Q, qP Q, qH Q) := by simp only [hs_S3]; rw [x2, x3, x4]
  refine (q_State_go ha ht hc x5 n4 hp hk).mono (fun r D' h => ?_)
  obtain ⟨hf, h2, h3⟩ := h
  rw [nk, nh, hlf, x7, hS] at h2 h3
  have e0 : D'.1 a = I a := hf.2.2 a (fun e => by omega)
  refine ⟨hf, ⟨?_, congrArg (fun z => z.1) h2, Or.inl (congrArg (fun z => z.2.1) h2), congrArg (fun z => z.2.2) h2, ?_, ?_, ?_⟩, h3⟩
  · rw [hf.2.2 (a + 1) (fun e => by omega), x1]; rfl
  · rw [e0]; exact x5
  · rw [e0]; exact x6
  · rw [e0]; exact x7
theorem qm_hour {b : Nat} {x : Int32} {N : sp_N} {Q : sp_Q} {fm odd : Int32} (hM : hs_M R) (hN : hs_Nm I N) (hX : hs_Qm I b Q) (hfm : I 188 26 = fm) (hpl : hs_pl N.1 (qP Q)) (hns : hs_ns (qS Q)) (hx : x = nI b) : hn_F 4 hm_M_passes [.ref 188, .int x, .int odd] (I, J, R) (fun r D' => hs_fr I J R D' hs_m3 ∧ (∀ j, ¬ (b ≤ j ∧ j < b + 21) → D'.1 204 j = I 204 j) ∧ hs_Qm D'.1 b (sp_hr N fm odd Q).1 ∧ r = some (.int (sp_hr N fm odd Q).2)) := by
  subst hfm
  refine (q_M_passes (odd := odd) hM hN.1 hN.2 hX.1 hpl hns hx).mono (fun r D' h => ?_)
  obtain ⟨hf, h1, h2, h3⟩ := h
  refine ⟨hf, fun j hj => ?_, ⟨h2, ?_⟩, h3⟩
  · rw [h1 j (by omega), va_up, if_neg (by omega)]
  · rw [h1 b (by omega), va_up, if_pos rfl, hX.2]; rfl
theorem qm_go {b p k : Nat} {x : Int32} {N : sp_N} {Q : sp_Q} {fm : Int32} (hM : hs_M R) (hN : hs_Nm I N) (hX : hs_Qm I b Q) (hfm : I 188 26 = fm) (hp : p < 4) (hk : k < N.1) (hne : ¬ qP Q p = nI k) (hx : x = nI b) : hn_F 3 hm_M_shifts [.ref 188, .int x, .int (nI p), .int (nI k)] (I, J, R) (fun r D' => hs_fr I J R D' hs_m3 ∧ (∀ j, ¬ (b ≤ j ∧ j < b + 21) → D'.1 204 j = I 204 j) ∧ hs_Qm D'.1 b (sp_sh N fm Q p k) ∧ r = some (.int (if sp_shf N fm Q p k then 1 else 0))) := by
  subst hfm
  refine (q_M_shifts hM hN.1 hN.2 hX.1 hp hk hne hx).mono (fun r D' h => ?_)
  obtain ⟨hf, h1, h2, h3⟩ := h
  refine ⟨hf, fun j hj => h1 j (by omega), ⟨h2, ?_⟩, h3⟩
  rw [h1 b (by omega), hX.2]; rfl
/-! copies -/
theorem cp_row {f g : Nat → Int32} {n : Nat} (hf : ∀ i, n ≤ i → f i = 0) (hg : ∀ i, n ≤ i → g i = 0) : va_cpy f g 0 0 n = f := by
  funext i
  unfold va_cpy
  by_cases h : i < n
  · rw [if_pos ⟨Nat.zero_le _, by omega⟩]; congr 1; omega
  · rw [if_neg (fun z => h (by omega)), hg i (by omega), hf i (by omega)]
theorem qx_copy {a c n np : Nat} {Q : sp_Q} {fm : Int32} (ha : hs_St R a) (hc : hs_St R c) (hd : a + 4 < c ∨ c + 4 < a) (hza : hs_z I a) (hzc : hs_z I c) (hX : hs_Qx I c n np fm Q) : hn_F 1 hm_State_copy [.ref a, .ref c] (I, J, R) (fun r D' => r = none ∧ hs_fr I J R D' (fun b => a ≤ b ∧ b ≤ a + 4) ∧ hs_Qx D'.1 a n np fm Q) := by
  obtain ⟨ha5, k0, k1, k2, k3, k4, r0, r1, r2, r3⟩ := ha
  obtain ⟨hc5, l0, l1, l2, l3, l4, s0, s1, s2, s3⟩ := hc
  obtain ⟨x1, x2, x3, x4, x5, x6, x7⟩ := hX
  refine hn_F_of _ hk_State_copy rfl (Nat.le_of_ble_eq_true rfl) ?_
  have hca : c ≠ a := by omega
  refine b_aload_n rfl rfl ?_
  refine b_aload_n rfl rfl ?_
  refine b_getI rfl (by first | rfl | assumption) rfl ?_
  refine b_putI rfl (by first | rfl | assumption) rfl rfl ⟨rfl, rfl⟩ ?_
  refine b_aload_n rfl rfl ?_
  refine b_aload_n rfl rfl ?_
  refine b_getI rfl (by first | rfl | assumption) rfl ?_
  rw [hn_u_ne _ _ _ hca]
  refine b_putI rfl (by first | rfl | assumption) rfl rfl ⟨rfl, rfl⟩ ?_
  refine b_aload_n rfl rfl ?_
  refine b_aload_n rfl rfl ?_
  refine b_getI rfl (by first | rfl | assumption) rfl ?_
  rw [hn_u_ne _ _ _ hca, hn_u_ne _ _ _ hca]
  refine b_putI rfl (by first | rfl | assumption) rfl rfl ⟨rfl, rfl⟩ ?_
  obtain ⟨I3, hI3⟩ : ∃ z, z = hn_u (hn_u (hn_u I a 4 (I c 4)) a 5 (I c 5)) a 6 (I c 6) := ⟨_, rfl⟩
  rw [← hI3]
  have e3 : ∀ b, b ≠ a → I3 b = I b := fun b hb => by rw [hI3, hn_u_ne _ _ _ hb, hn_u_ne _ _ _ hb, hn_u_ne _ _ _ hb]
  have e34 : I3 a 4 = nI np ∧ I3 a 5 = qT Q ∧ I3 a 6 = fm := by rw [hI3]; refine ⟨x5.symm ▸ ?_, x6.symm ▸ ?_, x7.symm ▸ ?_⟩ <;> simp [hn_u, va_up]
  refine b_aload_n rfl rfl ?_
  refine b_getR rfl (by first | rfl | assumption) rfl (by assumption) ?_
  refine b_iconst rfl ?_
  refine b_aload_n rfl rfl ?_
  refine b_getR rfl (by first | rfl | assumption) rfl (by assumption) ?_
  refine b_iconst rfl ?_
  refine b_bipush rfl ?_
  refine b_copyI rfl rfl (by first | rfl | assumption) (by first | rfl | assumption) (show (8 : Int32).toInt = ((8 : Nat) : Int) from rfl) (by omega) (by omega) (by decide) (Nat.le_of_ble_eq_true rfl) ?_
  rw [cp_row (n := 8) (fun i hi => by rw [e3 _ (by omega)]; exact hzc.1 i hi) (fun i hi => by rw [e3 _ (by omega)]; exact hza.1 i hi), e3 (c + 1) (by omega), x1]
  obtain ⟨I4, hI4⟩ : ∃ z, z = hn_ur I3 (a + 1) (qS Q) := ⟨_, rfl⟩
  rw [← hI4]
  have e4 : ∀ b, b ≠ a + 1 → I4 b = I3 b := fun b hb => by rw [hI4, hn_ur_ne _ _ hb]
  refine b_aload_n rfl rfl ?_
  refine b_getR rfl (by first | rfl | assumption) rfl (by assumption) ?_
  refine b_iconst rfl ?_
  refine b_aload_n rfl rfl ?_
  refine b_getR rfl (by first | rfl | assumption) rfl (by assumption) ?_
  refine b_iconst rfl ?_
  refine b_iconst rfl ?_
  refine b_copyI rfl rfl (by first | rfl | assumption) (by first | rfl | assumption) hi_l4 (by omega) (by omega) (by decide) (Nat.le_of_ble_eq_true rfl) ?_
  rw [cp_row (n := 4) (fun i hi => by rw [e4 _ (by omega), e3 _ (by omega)]; exact (hzc.2 i hi).1) (fun i hi => by rw [e4 _ (by omega), e3 _ (by omega)]; exact (hza.2 i hi).1), e4 (c + 2) (by omega), e3 (c + 2) (by omega), x2]
  obtain ⟨I5, hI5⟩ : ∃ z, z = hn_ur I4 (a + 2) (qW Q) := ⟨_, rfl⟩
  rw [← hI5]
  have e5 : ∀ b, b ≠ a + 2 → I5 b = I4 b := fun b hb => by rw [hI5, hn_ur_ne _ _ hb]
  refine b_aload_n rfl rfl ?_
  refine b_getR rfl (by first | rfl | assumption) rfl (by assumption) ?_
  refine b_iconst rfl ?_
  refine b_aload_n rfl rfl ?_
  refine b_getR rfl (by first | rfl | assumption) rfl (by assumption) ?_
  refine b_iconst rfl ?_
  refine b_iconst rfl ?_
  refine b_copyI rfl rfl (by first | rfl | assumption) (by first | rfl | assumption) hi_l4 (by omega) (by omega) (by decide) (Nat.le_of_ble_eq_true rfl) ?_
  rw [cp_row (n := 4) (fun i hi => by rw [e5 _ (by omega), e4 _ (by omega), e3 _ (by omega)]; exact (hzc.2 i hi).2.1) (fun i hi => by rw [e5 _ (by omega), e4 _ (by omega), e3 _ (by omega)]; exact (hza.2 i hi).2.1), e5 (c + 3) (by omega), e4 (c + 3) (by omega), e3 (c + 3) (by omega)]
  obtain ⟨I6, hI6⟩ : ∃ z, z = hn_ur I5 (a + 3) (I (c + 3)) := ⟨_, rfl⟩
  rw [← hI6]
  have e6 : ∀ b, b ≠ a + 3 → I6 b = I5 b := fun b hb => by rw [hI6, hn_ur_ne _ _ hb]
  refine b_aload_n rfl rfl ?_
  refine b_getR rfl (by first | rfl | assumption) rfl (by assumption) ?_
  refine b_iconst rfl ?_
  refine b_aload_n rfl rfl ?_
  refine b_getR rfl (by first | rfl | assumption) rfl (by assumption) ?_
  refine b_iconst rfl ?_
  refine b_iconst rfl ?_
  refine b_copyI rfl rfl (by first | rfl | assumption) (by first | rfl | assumption) hi_l4 (by omega) (by omega) (by decide) (Nat.le_of_ble_eq_true rfl) ?_
  rw [cp_row (n := 4) (fun i hi => by rw [e6 _ (by omega), e5 _ (by omega), e4 _ (by omega), e3 _ (by omega)]; exact (hzc.2 i hi).2.2) (fun i hi => by rw [e6 _ (by omega), e5 _ (by omega), e4 _ (by omega), e3 _ (by omega)]; exact (hza.2 i hi).2.2), e6 (c + 4) (by omega), e5 (c + 4) (by omega), e4 (c + 4) (by omega), e3 (c + 4) (by omega), x4]
  exact b_return_ rfl trivial (⟨rfl, ⟨rfl, rfl, fun b hb => (hn_ur_ne _ _ (by omega)).trans (by rw [e6 _ (by omega), e5 _ (by omega), e4 _ (by omega), e3 _ (by omega)])⟩, (hn_ur_ne _ _ (by omega)).trans (by rw [e6 _ (by omega), e5 _ (by omega), hI4, hn_ur_eq]), (hn_ur_ne _ _ (by omega)).trans (by rw [e6 _ (by omega), hI5, hn_ur_eq]), P3_e ((hn_ur_ne _ _ (by omega)).trans (by rw [hI6, hn_ur_eq])) x3, hn_ur_eq _ _ _, (congrFun (hn_ur_ne _ _ (by omega)) _).trans (by rw [e6 _ (by omega), e5 _ (by omega), e4 _ (by omega)]; exact e34.1), (congrFun (hn_ur_ne _ _ (by omega)) _).trans (by rw [e6 _ (by omega), e5 _ (by omega), e4 _ (by omega)]; exact e34.2.1), (congrFun (hn_ur_ne _ _ (by omega)) _).trans (by rw [e6 _ (by omega), e5 _ (by omega), e4 _ (by omega)]; exact e34.2.2)⟩)
theorem cp_succ {f g : Nat → Int32} {a b k : Nat} : va_up (va_cpy f g a b k) (b + k) (f (a + k)) = va_cpy f g a b (k + 1) := by
  funext i
  simp only [va_up, va_cpy]
  by_cases hi : i = b + k
  · rw [if_pos hi, if_pos (by omega), hi]; congr 1; omega
  · rw [if_neg hi]
    by_cases hj : b ≤ i ∧ i < b + k
    · rw [if_pos hj, if_pos (by omega)]
    · rw [if_neg hj, if_neg (by omega)]
/-- the reference copies a run of its places -/
theorem q_M_copies {f t m : Nat} {xf xt xm : Int32} (hM : hs_M R) (hf : f + m ≤ 1081) (ht : t + m ≤ 1081) (hd : f + m ≤ t ∨ t + m ≤ f) (ef : xf = nI f) (et : xt = nI t) (em : xm = nI m) : hn_F 0 hm_M_copies [.ref 188, .int xf, .int xt, .int xm] (I, J, R) (fun r D' => r = none ∧ hs_fr I J R D' (fun b => b = 204) ∧ D'.1 204 = va_cpy (I 204) (I 204) f t m) := by
  obtain ⟨m1, m4, m5, m6, m9, m10, m11, m12, m14, m15, m16, m17, m20, m21, m22, m23, m25, m27, m28, m29, m30, m31, m32⟩ := hM
  refine hn_F_of _ hk_M_copies rfl (Nat.le_of_ble_eq_true rfl) ?_
  obtain ⟨P, hPd⟩ : ∃ P : Option Value → hnD → Prop, P = (fun r D' => r = none ∧ hs_fr I J R D' (fun b => b = 204) ∧ D'.1 204 = va_cpy (I 204) (I 204) f t m) := ⟨_, rfl⟩
  rw [← hPd]
  refine b_iconst rfl ?_
  refine b_istore rfl (Nat.le_of_ble_eq_true rfl) ?_
  refine b_eq (sp_ind m (fun k => ∀ I' : Nat → Nat → Int32, (∀ b, b ≠ 204 → I' b = I b) → I' 204 = va_cpy (I 204) (I 204) f t k → hn_B 0 hm_M_copies P 3 [.ref 188, .int xf, .int xt, .int xm, .int (nI k)] [] (I', J, R)) ?_ ?_ I (fun _ _ => rfl) (by funext i; unfold va_cpy; rw [if_neg (by omega)])) (by rw [nI_0]; rfl) rfl rfl
  · intro I' h1 h2
    refine b_iload rfl rfl ?_
    refine b_iload_n rfl rfl ?_
    refine b_icmp_ge rfl (fun c_6 => ?_) (fun c_6 => ?_)
    · exact b_return_ rfl trivial ((by rw [hPd]; exact ⟨rfl, ⟨rfl, rfl, h1⟩, h2⟩))
    · exact absurd (by rw [em]; exact nI_le (Nat.le_refl _) (by omega)) c_6
  · intro k hk ih I' h1 h2
    have e : I' 204 (f + k) = I 204 (f + k) := by rw [h2]; unfold va_cpy; rw [if_neg (by omega)]
    refine b_iload rfl rfl ?_
    refine b_iload_n rfl rfl ?_
    refine b_icmp_ge rfl (fun c_6 => ?_) (fun c_6 => ?_)
    · exact absurd (by rw [← em]; exact c_6) (nI_ge hk (by omega))
    · refine b_aload_n rfl rfl ?_
      refine b_getR rfl (by first | rfl | assumption) rfl (by assumption) ?_
      refine b_iload_n rfl rfl ?_
      refine b_iload rfl rfl ?_
      refine b_iadd rfl ?_
      refine b_aload_n rfl rfl ?_
      refine b_getR rfl (by first | rfl | assumption) rfl (by assumption) ?_
      refine b_iload_n rfl rfl ?_
      refine b_iload rfl rfl ?_
      refine b_iadd rfl ?_
      refine b_iaload rfl (by first | rfl | assumption) (hi_ix (f + k) (by rw [nI_ad, ef]) (by omega)) (by omega) ?_
      rw [e]
      refine b_iastore rfl (by first | rfl | assumption) (hi_ix (t + k) (by rw [nI_ad, et]) (by omega)) (by omega) ?_
      refine b_iinc rfl rfl (Nat.le_of_ble_eq_true rfl) ?_
      refine b_goto rfl ?_
      exact b_eq (ih (hn_u I' 204 (t + k) (I 204 (f + k))) (fun b hb => by rw [hn_u_ne _ _ _ hb]; exact h1 b hb) (by rw [hn_u_eq, h2]; exact cp_succ)) (by rw [nI_succ]; rfl) rfl rfl
end HNworld
