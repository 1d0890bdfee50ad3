section HNwnet
variable {I I' : Nat → Nat → Int32} {J J' : Nat → Nat → Int64} {R R' : Nat → Nat → Option Nat} {N : sp_N} {S : sp_Q} {U : sp_U} {V : sp_V} {K : sp_K} {L : sp_L} {T : sp_T} {nm pm : Nat → Nat} {t t2 l l2 : Nat}
def nz (T : sp_T) : rd × sp_B := p_net (tf T) T.2 1001 ((0, 0), b_0)
/-- the class has read a net: what is known of it, understood or not -/
def hs_Y1 (I : Nat → Nat → Int32) (J : Nat → Nat → Int64) (R : Nat → Nat → Option Nat) (t t2 l l2 : Nat) (N : sp_N) (S : sp_Q) (U : sp_U) (V : sp_V) (K : sp_K) (L : sp_L) (T : sp_T) (nm pm : Nat → Nat) (Z : rd × sp_B) : Prop :=
  (¬ Z.1.1 = 0 ∧ hs_WX I J R t t2 l l2 N S U V K L (tp_0 T) nm pm) ∨
  (Z.1.1 = 0 ∧ hs_Bw Z.2 ∧ hs_refs R ∧ R 0 2 = some t2 ∧ R 0 3 = some t ∧ (R 0 4 = some l ∧ R 0 5 = some l2 ∧ ((l = 36 ∧ l2 = 40) ∨ (l = 40 ∧ l2 = 36))) ∧ ((t = 4 ∧ t2 = 20) ∨ (t = 20 ∧ t2 = 4)) ∧ hs_Bx I J t2 Z.2 ∧ hs_Qx I 44 (bK Z.2) (bP Z.2) 0 (b_Q Z.2) ∧ hs_Qx I (t2 + 11) (bK Z.2) (bP Z.2) 0 (b_Q Z.2) ∧ hs_zs I ∧ (∃ nw : Nat, nw < 16 ∧ I 0 10 = nI nw) ∧ I 0 9 = 0 ∧ I l 3 = 0 ∧ I 135 1 = 0 ∧ (∀ i, i < 8 → I 138 i = 0 ∨ I 138 i = 1) ∧ (∀ m, m < 4 → I 141 m = 0) ∧ I 1 1 = 0 ∧ hs_zn I t)
theorem W_X_net (h : hs_Wo I J R t t2 l l2 N S U V K L T nm pm) : hn_F 6 hm_X_net [.ref 0] (I, J, R) (fun r D' => r = some (.int (nI (nz T).1.1)) ∧ ∃ I1 J1 R1, D' = (I1, J1, R1) ∧ hs_Y1 I1 J1 R1 t t2 l l2 N S U V K L T nm pm (nz T) ∧ hs_WM I1 J1 R1 N S U V K L T nm pm) := by
  obtain ⟨hWX, hWM, n8, n4, sw, uw, vw, kw, lw, l40, tok, n1, jw⟩ := h
  obtain ⟨⟨hR, r2, ht, hN, hX, hw0, hz, hAw⟩, zs, px, qs, ⟨r3, t3⟩, ⟨r4, r5, l3⟩, lx, vx, kx, tx, zn, nn⟩ := id hWX
  have hL2 : hs_Lr R l := hs_Lr_of hR (by omega)
  have ht2 : t2 = 4 ∨ t2 = 20 := by omega
  have hNt := hs_Net_of hR ht2
  have hSt : hs_St R (t2 + 11) := hs_St_of hR (by rcases ht2 with rfl | rfl <;> decide +kernel)
  refine (q_X_net (J := J) hR r2 r3 ht hL2 r4 (tf_x tok tx) tx.1 hNt hSt zn (zs 44 (by decide +kernel))).mono (fun r D' hq => ?_)
  obtain ⟨rfl, hb, I3, J3, R3, g, gz, gB, hD⟩ := hq
  refine ⟨rfl, ?_⟩
  obtain ⟨Z, hZ⟩ : ∃ Z, Z = nz T := ⟨_, rfl⟩
  rw [← hZ]
  have gB : Z.1.1 = 0 → hs_Bx I3 J3 t2 Z.2 ∧ hs_Bw Z.2 := by rw [hZ]; exact gB
  have hD : (¬ Z.1.1 = 0 ∧ D' = (hn_u I3 1 1 0, J3, R3)) ∨ (Z.1.1 = 0 ∧ ∃ I4, hs_ba (hn_u I3 1 1 0) I4 l ∧ hs_Qx I4 44 (bK Z.2) (bP Z.2) 0 (q_at I3 (t2 + 11)) ∧ D' = (I4, J3, hn_u (hn_u R3 0 2 (some t2)) 0 3 (some t))) := by rw [hZ]; exact hD
  obtain ⟨I4, hI4⟩ : ∃ z, z = hn_u I3 1 1 0 := ⟨_, rfl⟩
  rw [← hI4] at hD
  have e3 : ∀ b, b ≠ 1 → I4 b = I3 b := fun b hb => by rw [hI4, hn_u_ne _ _ _ hb]
  have e : ∀ b, b ≠ 1 → b ≠ 3 → b < t2 ∨ t2 + 15 < b → I4 b = I b := fun b h1 h2 h3 => (e3 b h1).trans (g.1 b h1 h2 h3)
  have e11 : I4 1 1 = 0 := by rw [hI4, hn_u_eq, va_up, if_pos rfl]
  have ksc : ∀ a, a ∈ hs_sc → 3 < a ∧ (a = 15 ∨ a = 31 ∨ 43 < a) ∧ (a + 4 < 135 ∨ 141 < a) ∧ (a = 44 ∨ a + 4 < 44 ∨ 48 < a) := by decide +kernel
  have z4 : hs_zs I4 := fun a ha => by
    have k := ksc a ha
    by_cases ha2 : a = t2 + 11
    · rw [ha2]; exact hs_z_fr gz.1 (fun b h1 h2 => e3 b (by omega))
    · exact hs_z_fr (zs a ha) (fun b h1 h2 => e b (by omega) (by omega) (by omega))
  have zn4 : hs_zn I4 t2 := hs_zn_g gz (fun b h1 h2 h3 h4 => e3 b (by omega))
  have R3e : ∀ b, b ≠ 1 → R3 b = R b := g.2.2.1
  have rf3 : hs_refs R3 := refs_g hR (fun b b0 b1 b2 b3 => R3e b b1) (fun i _ _ _ _ => by rw [R3e 0 (by omega)]) g.2.2.2
  rcases hD with ⟨h0, rfl⟩ | ⟨h0, I5, ba, q5, rfl⟩
  · have eT : hs_Tx I4 (tp_0 T) := ⟨e11, fun i hi => absurd hi (Nat.not_lt_zero _)⟩
    refine ⟨I4, J3, R3, rfl, Or.inl ⟨h0, ⟨⟨rf3, by rw [R3e 0 (by omega)]; exact r2, ht, hs_Nx_g hN (fun b hb => e b (by omega) (by omega) (by omega)), hs_Qx_fr hX (fun b h1 h2 => e b (by omega) (by omega) (by omega)), hw0, z4 49 (by decide +kernel), hAw⟩, z4, hs_px_fr px (e 0 (by omega) (by omega) (by omega)) (fun b h1 h2 => e b (by omega) (by omega) (by omega)), hs_Qx_fr qs (fun b h1 h2 => e b (by omega) (by omega) (by omega)), ⟨by rw [R3e 0 (by omega)]; exact r3, t3⟩, ⟨by rw [R3e 0 (by omega)]; exact r4, by rw [R3e 0 (by omega)]; exact r5, l3⟩, hs_Lx_g lx (fun b h1 h2 => e b (by omega) (by omega) (by omega)) (R3e _ (by omega)), hs_Vx_fr vx (fun b h1 h2 => e b (by omega) (by omega) (by omega)), hs_Kx_fr kx (fun b h1 h2 => e b (by omega) (by omega) (by omega)), eT, zn4, hs_Nn_g nn (fun b hb => e b (by omega) (by omega) (by omega)) (fun b hb => g.2.1 b (by omega) (by omega) (by omega))⟩⟩, WM_R (WM_same hWM (fun b hb => e b (by omega) (by omega) (by omega)) (fun b hb => g.2.1 b (by omega) (by omega) (by omega))) rf3⟩
  · obtain ⟨bx, bw⟩ := gB h0
    obtain ⟨a1, a2, a3, a4, a5, a6, a7, a8, a9⟩ := ba
    have eq : q_at I3 (t2 + 11) = b_Q Z.2 := q_at_b bx
    rw [eq] at q5
    have s3 := q_at_B bx
    rw [eq] at s3
    obtain ⟨R5, hR5⟩ : ∃ z, z = hn_u (hn_u R3 0 2 (some t2)) 0 3 (some t) := ⟨_, rfl⟩
    have f5 : ∀ b, b ≠ 0 → R5 b = R3 b := fun b hb => by rw [hR5, hn_u_ne _ _ _ hb, hn_u_ne _ _ _ hb]
    have f50 : ∀ i, i ≠ 2 → i ≠ 3 → R5 0 i = R 0 i := fun i h4 h5 => by rw [hR5, hn_u_eq, va_up, if_neg h5, hn_u_eq, va_up, if_neg h4, R3e 0 (by omega)]
    have rf5 : hs_refs R5 := refs_g hR (fun b b0 b1 b2 b3 => by rw [f5 b b0]; exact R3e b b1) (fun i i2 i3 _ _ => f50 i i2 i3) (fun i hi => by rw [f5 1 (by omega)]; exact g.2.2.2 i hi)
    have e5 : ∀ b, ¬ (44 ≤ b ∧ b ≤ 48) → b ≠ l → b ≠ 135 → b ≠ 0 → b ≠ 141 → I5 b = I4 b := a1
    have s5 : hs_Qx I5 (t2 + 11) (bK Z.2) (bP Z.2) 0 (b_Q Z.2) := hs_Qx_fr s3 (fun b h1 h2 => by rw [e5 b (by omega) (by omega) (by omega) (by omega) (by omega)]; exact e3 b (by omega))
    have bx5 : hs_Bx I5 J3 t2 Z.2 := hs_Bx_c bx (fun b h1 h2 => by rw [e5 b (by omega) (by omega) (by omega) (by omega) (by omega)]; exact e3 b (by omega)) rfl rfl
    have z5 : hs_zs I5 := fun a ha => by
      have k := ksc a ha
      by_cases h44 : a = 44
      · rw [h44]; exact hs_z_of q5 (b_Qw bw) bw.2.2.2.2.2.2.2.1 bw.2.2.2.2.2.2.2.2
      · exact hs_z_fr (z4 a ha) (fun b h1 h2 => e5 b (by omega) (by omega) (by omega) (by omega) (by omega))
    obtain ⟨nw, p1, p2, _⟩ := px
    have znt : hs_zn I5 t := by
      refine ⟨z5 (t + 11) (by rcases ht with rfl | rfl <;> decide +kernel), fun i hi => ?_⟩
      have e6 : I5 (t + 4) = I (t + 4) := by rw [e5 (t + 4) (by omega) (by omega) (by omega) (by omega) (by omega)]; exact e _ (by omega) (by omega) (by omega)
      rw [e6, hN.2.2.2.2.2.1]
      exact hAw.2 i (by omega)
    refine ⟨I5, J3, R5, by rw [hR5], Or.inr ⟨h0, bw, rf5, by rw [hR5, hn_u_eq, va_up, if_neg (by omega), hn_u_eq, va_up, if_pos rfl], by rw [hR5, hn_u_eq, va_up, if_pos rfl], ⟨by rw [f50 4 (by omega) (by omega)]; exact r4, by rw [f50 5 (by omega) (by omega)]; exact r5, l3⟩, t3, bx5, q5, s5, z5, ⟨nw, p1, by rw [a4 10 (by omega), e 0 (by omega) (by omega) (by omega)]; exact p2⟩, a8, a6, a7, fun i hi => ?_, a9, by rw [e5 1 (by omega) (by omega) (by omega) (by omega) (by omega)]; exact e11, znt⟩, WM_R (WM_same hWM (fun b hb => by rw [e5 b (by omega) (by omega) (by omega) (by omega) (by omega)]; exact e b (by omega) (by omega) (by omega)) (fun b hb => g.2.1 b (by omega) (by omega) (by omega))) rf5⟩
    rw [e5 138 (by omega) (by omega) (by omega) (by omega) (by omega), e 138 (by omega) (by omega) (by omega)]
    exact vx.2.2.2.2 i hi
/-- a code of the reference is the class's -/
theorem mc_of {op arg cs : Nat → Int32} {C : List Int32} (h0 : op C.length = 0) (hl : C.length ≤ 1000) (hr : ∀ i, i < C.length → mc_rel (op i) (arg i) (C.getD (C.length - 1 - i) 0)) (hi : ev_in cs C) (he : eg 64 C ∧ eh C = 1) : hs_mc op arg cs C.length := by
  have g := ev_eg hi he.1
  exact ⟨h0, (ev_eh hi).trans he.2, hl, g.1, fun i hi2 => ⟨by rw [hi i hi2]; exact hr i hi2, g.2 i hi2⟩⟩
theorem ev_1 {cs : Nat → Int32} (h : cs 0 = 1) : (∀ i, i ≤ 1 → ev_ln cs i ≤ 64) ∧ ∀ h m y o, ev_val h m y o cs 1 = 1 := by
  refine ⟨fun i hi => ?_, fun a m y o => ?_⟩
  · rcases (show i = 0 ∨ i = 1 by omega) with rfl | rfl
    · show 0 ≤ 64; omega
    · show (if cs 0 < 10004 then 0 + 1 else if cs 0 = 10004 then 0 else if 2 ≤ 0 then 0 - 1 else 0) ≤ 64
      rw [h, if_pos (show (1 : Int32) < 10004 by decide)]; omega
  · have e : ev a m y o cs 1 = ev_step a m y o (cs 0) [] := rfl
    unfold ev_val
    rw [e, h]
    rfl
/-- the net, the state, all that begins anew -/
def nzN (I : Nat → Nat → Int32) (t2 : Nat) (B : sp_B) : sp_N := (bK B, bP B, I (t2 + 2), I (t2 + 3), bAg B, I (t2 + 7), match bL B with | none => 1 | some C => C.length)
theorem nzN_x {B : sp_B} (h : hs_Bx I J t2 B) (hw : hs_Bw B) (hc : hs_Bc B) : hs_Nx I t2 (nzN I t2 B) ∧ hs_Aw (nzN I t2 B) := by
  obtain ⟨hn, ⟨b1, b2, b3⟩, _, hl⟩ := h
  obtain ⟨s1, s2, s3, a1, a2, p, k, k8, p4⟩ := hw
  refine ⟨⟨hn.1, k8, p4, rfl, rfl, b3, ?_, rfl⟩, a1, a2⟩
  unfold hs_Bl at hl
  unfold hs_Bc at hc
  unfold hs_code
  show I (t2 + 6) 1 = nI (match bL B with | none => 1 | some C => C.length) ∧ (match bL B with | none => 1 | some C => C.length) ≤ 1000 ∧ ∀ i, i ≤ (match bL B with | none => 1 | some C => C.length) → ev_ln (I (t2 + 7)) i ≤ 64
  cases hL : bL B with
  | none =>
    rw [hL] at hl
    exact ⟨hl.2.1, by show 1 ≤ 1000; omega, (ev_1 hl.2.2).1⟩
  | some C =>
    rw [hL] at hl hc
    exact ⟨hl.2.1, hl.2.2.2, (ev_eg hl.2.2.1 hc.1).1⟩
theorem nzN_m {I2 : Nat → Nat → Int32} {J2 : Nat → Nat → Int64} {B : sp_B} (h : hs_Bx I J t2 B) (hw : hs_Bw B) (hc : hs_Bc B) (hM : hs_MB I2 J2 B) : hs_Nm I2 (nzN I t2 B) := by
  obtain ⟨hn, ⟨b1, b2, b3⟩, _, hl⟩ := h
  obtain ⟨m1, m2, m3, m4, m5, m6, m7⟩ := hM
  refine ⟨⟨m1, hw.2.2.2.2.2.2.2.1, m2, hw.2.2.2.2.2.2.2.2, fun k hk => ?_⟩, ?_⟩
  · obtain ⟨x1, x2, x3, x4⟩ := m3 k hk
    exact ⟨x1.trans (b1 k hk).1.symm, x2.trans (b1 k hk).2.symm, x4⟩
  · unfold hs_Bl at hl
    unfold hs_ML2 at m7
    unfold hs_Bc at hc
    unfold hs_ML
    show (I2 194 4 = -1 ∧ ∀ h m y o, ev_val h m y o (I (t2 + 7)) (match bL B with | none => 1 | some C => C.length) = 1) ∨ (I2 194 4 = 0 ∧ hs_mc (I2 195) (I2 196) (I (t2 + 7)) (match bL B with | none => 1 | some C => C.length))
    cases hL : bL B with
    | none =>
      rw [hL] at hl m7
      exact Or.inl ⟨m7, (ev_1 hl.2.2).2⟩
    | some C =>
      rw [hL] at hl hc m7
      exact Or.inr ⟨m7.1, mc_of m7.2.2.1 m7.2.2.2 m7.2.1 hl.2.2.1 hc⟩
theorem W_M_net (hY : hs_Y1 I J R t t2 l l2 N S U V K L T nm pm (nz T)) (hWM : hs_WM I J R N S U V K L T nm pm) (hw : hs_Ww N S U V K L T nm pm) : hn_F 35 hm_M_net [.ref 188] (I, J, R) (fun r D' => r = some (.int (nI (nz T).1.1)) ∧ ∃ I1 J1 t' t2' N' S' U' V' K' L' nm' pm', D' = (I1, J1, R) ∧ hs_Wo I1 J1 R t' t2' l l2 N' S' U' V' K' L' (tp_0 T) nm' pm') := by
  obtain ⟨n8, n4, sw, uw, vw, kw, lw, l40, tok, n1, jw⟩ := hw
  obtain ⟨b0, pm0, sm, lm, vm, km, tm, nt, wm⟩ := id hWM
  refine (q_M_net b0.1 wm tok.1 (tf_m tok tm) tm.1 (tf_v tok)).mono (fun r D' hq => ?_)
  obtain ⟨rfl, hb, I2, J2, rfl, g2, g0, hZ⟩ := hq
  refine ⟨rfl, ?_⟩
  obtain ⟨Z, hZd⟩ : ∃ Z, Z = nz T := ⟨_, rfl⟩
  rw [← hZd] at hY
  have hZ : (¬ Z.1.1 = 0 ∧ hs_f1 I J I2 J2) ∨ (Z.1.1 = 0 ∧ hs_Bq Z.2 ∧ hs_MB I2 J2 Z.2 ∧ (∃ I1, hs_bg I1 I2 (b_Q Z.2)) ∧ hs_f2 I J I2 J2) := by rw [hZd]; exact hZ
  rcases hZ with ⟨h0, f1, f2, f3, f4, f5⟩ | ⟨h0, ⟨bw, bj, bc⟩, mb, ⟨I0, bg⟩, f1, f2, f3, f4⟩
  · rcases hY with ⟨_, hWX⟩ | ⟨z, _⟩
    · refine ⟨I2, J2, t, t2, N, S, U, V, K, L, nm, pm, rfl, WX_same hWX (fun b hb => f1 b (by omega) (by omega) (by omega) (by omega) (by omega) (by omega) (by omega)) (fun b hb => f5 b (by omega) (by omega)), ?_, n8, n4, sw, uw, vw, kw, lw, l40, tp_0_ok, n1, jw⟩
      have e : ∀ b, b ≠ 188 → b ≠ 190 → b ≠ 191 → b ≠ 194 → b ≠ 195 → b ≠ 196 → b ≠ 200 → I2 b = I b := f1
      have e194 : ∀ j, j < 60 → I2 194 j = I 194 j := f3
      refine ⟨⟨b0.1, ?_, hs_Qm_fr b0.2.2.1 (by omega) (fun j hj => by rw [e 204 (by omega) (by omega) (by omega) (by omega) (by omega) (by omega) (by omega)]), by rw [f2 26 (by omega) (by omega) (by omega) (by omega) (by omega) (by omega) (by omega)]; exact b0.2.2.2.1, b0.2.2.2.2⟩, hs_pm_fr pm0 (f2 24 (by omega) (by omega) (by omega) (by omega) (by omega) (by omega) (by omega)) (fun j h1 h2 => by rw [e 204 (by omega) (by omega) (by omega) (by omega) (by omega) (by omega) (by omega)]), ?_, hs_Lm_g lm (e 201 (by omega) (by omega) (by omega) (by omega) (by omega) (by omega) (by omega)), hs_Vm_fr vm (fun j h1 h2 => by rw [e 204 (by omega) (by omega) (by omega) (by omega) (by omega) (by omega) (by omega)]), hs_Km_fr km (e 205 (by omega) (by omega) (by omega) (by omega) (by omega) (by omega) (by omega)) (fun j h1 h2 => by rw [e 204 (by omega) (by omega) (by omega) (by omega) (by omega) (by omega) (by omega)]), ⟨g2, fun i hi => absurd hi (Nat.not_lt_zero _)⟩, hs_Nt_c nt (e 199 (by omega) (by omega) (by omega) (by omega) (by omega) (by omega) (by omega)) (f2 18 (by omega) (by omega) (by omega) (by omega) (by omega) (by omega) (by omega)) (f5 197 (by omega) (by omega)), hs_Wm_c wm (f5 193 (by omega) (by omega))⟩
      · obtain ⟨⟨y1, y2, y3, y4, y5⟩, y6⟩ := b0.2.1
        refine ⟨⟨by rw [e194 0 (by omega)]; exact y1, y2, by rw [e194 3 (by omega)]; exact y3, y4, fun k hk => by rw [e194 _ (by omega), e194 _ (by omega), e194 _ (by omega)]; exact y5 k hk⟩, ?_⟩
        rcases y6 with ⟨y6, y7⟩ | ⟨y6, y7⟩
        · exact Or.inl ⟨by rw [e194 4 (by omega)]; exact y6, y7⟩
        · obtain ⟨z1, z2, z3, z4, z5⟩ := y7
          exact Or.inr ⟨by rw [e194 4 (by omega)]; exact y6, by rw [(f4 _ (by omega)).1]; exact z1, z2, z3, z4, fun i hi => by rw [(f4 i (by omega)).1, (f4 i (by omega)).2]; exact z5 i hi⟩
      · obtain ⟨y1, y2, y3, y4⟩ := sm
        exact ⟨fun k hk => by rw [e194 _ (by omega)]; exact y1 k hk, fun p hp => by rw [e194 _ (by omega), e194 _ (by omega)]; exact y2 p hp, y3, y4⟩
    · exact absurd z h0
  · rcases hY with ⟨z, _⟩ | ⟨_, bw', rf, r2, r3, ⟨r4, r5, l3⟩, t3, bx, q44, q11, zs, ⟨nw, p1, p2⟩, p9, l30, v0, v3, k0, t10, znt⟩
    · exact absurd h0 z
    · have hQw := b_Qw bw
      have e : ∀ b, b < 188 → I2 b = I b := fun b hb => f1 b (by omega) (by omega)
      have eJ : ∀ b, b < 188 → J2 b = J b := fun b hb => f4 b (by omega) (by omega) (by omega)
      have bx2 : hs_Bx I2 J2 t2 Z.2 := hs_Bx_c bx (fun b h1 h2 => e b (by omega)) (eJ _ (by omega)) (eJ _ (by omega))
      obtain ⟨nx, aw⟩ := nzN_x bx2 bw bc
      have nm2 := nzN_m bx2 bw bc mb
      obtain ⟨g1, g3, g4, g5, g6, g7, g8, g9, g10⟩ := bg
      obtain ⟨mb1, mb2, mb3, mb4, mb5, mb6, mb7⟩ := id mb
      have ht2 : t2 = 4 ∨ t2 = 20 := by omega
      refine ⟨I2, J2, t2, t, nzN I2 t2 Z.2, b_Q Z.2, (b_Q Z.2, 0, U.2.2), (V.1, 0, V.2.2), fun _ => none, (0, L.2), bNm Z.2, bPm Z.2, rfl, ?_, ?_, ?_⟩
      · exact ⟨⟨rf, r2, ht2, nx, hs_Qx_fr q44 (fun b h1 h2 => e b (by omega)), hQw, hs_z_fr (zs 49 (by decide +kernel)) (fun b h1 h2 => e b (by omega)), aw⟩, fun a ha => hs_z_fr (zs a ha) (fun b h1 h2 => by have := hs_sc_k a ha; exact e b (by omega)), ⟨nw, p1, by rw [e 0 (by omega)]; exact p2, by rw [e 0 (by omega)]; exact p9, Nat.zero_le _, fun j hj => absurd hj (Nat.not_lt_zero _)⟩, hs_Qx_fr q11 (fun b h1 h2 => e b (by omega)), ⟨r3, by omega⟩, ⟨r4, r5, l3⟩, ⟨by rw [e l (by omega)]; exact l30, Nat.zero_le _, fun i hi => absurd hi (Nat.not_lt_zero _)⟩, ⟨by rw [e 135 (by omega)]; exact v0, Nat.zero_le _, fun z => absurd z (Nat.lt_irrefl _), fun i hi => absurd hi (Nat.not_lt_zero _), fun i hi => by rw [e (135 + 3) (by omega)]; exact v3 i hi⟩, fun m hm => by rw [e 141 (by omega)]; exact k0 m hm, ⟨by rw [e 1 (by omega)]; exact t10, fun i hi => absurd hi (Nat.not_lt_zero _)⟩, hs_zn_g znt (fun b h1 h2 h3 h4 => e b (by omega)), bx2.1⟩
      · exact ⟨⟨rf, nm2, g1, g7, hQw, aw⟩, ⟨g6, Nat.zero_le _, fun j hj => absurd hj (Nat.not_lt_zero _)⟩, ⟨fun k hk => (mb3 k hk).2.2.1, fun p hp => ⟨(mb4 p hp).1.trans (if_pos hp).symm, (mb4 p hp).2.trans (if_pos hp).symm⟩, fun _ => rfl, rfl⟩, ⟨g5, fun i hi => absurd hi (Nat.not_lt_zero _)⟩, ⟨g3, Nat.zero_le _, fun z => absurd z (Nat.lt_irrefl _), fun i hi => absurd hi (Nat.not_lt_zero _)⟩, fun m hm => g8 m hm, ⟨g2, fun i hi => absurd hi (Nat.not_lt_zero _)⟩, ⟨mb5, mb6⟩, hs_Wm_c wm (f4 193 (by omega) (by omega) (by omega))⟩
      · exact ⟨bw.2.2.2.2.2.2.2.1, bw.2.2.2.2.2.2.2.2, hQw, ⟨hQw, fun j hj => absurd hj (Nat.not_lt_zero _)⟩, ⟨fun z => absurd z (Nat.lt_irrefl _), fun i hi => absurd hi (Nat.not_lt_zero _), fun i hi => absurd hi (Nat.not_lt_zero _)⟩, fun m q hm hq => (by cases hq), fun i hi => absurd hi (Nat.not_lt_zero _), Nat.zero_le _, tp_0_ok, fun z => (by have := (bw.2.2.2.2.2.1 0 z).2; show 1 ≤ bK Z.2; omega), bj⟩
end HNwnet
