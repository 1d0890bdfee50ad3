section HNdeeds
variable {I I' : Nat → Nat → Int32} {J J' : Nat → Nat → Int64} {R R' : Nat → Nat → Option Nat} {N : sp_N} {S : sp_Q} {U U2 : sp_U} {V V2 : sp_V} {K K2 : sp_K} {L : sp_L} {T T2 : sp_T} {nm pm : Nat → Nat} {t t2 l l2 : Nat}
theorem WX_same (h : hs_WX I J R t t2 l l2 N S U V K L T nm pm) (g : ∀ b, b < 188 → I' b = I b) (gJ : ∀ b, b < 188 → J' b = J b) : hs_WX I' J' R t t2 l l2 N S U V K L T nm pm :=
  WX_q h (fun b hb _ => g b hb) (hs_z_fr h.1.2.2.2.2.2.2.1 (fun b h1 h2 => g b (by omega))) (fun b hb _ _ _ => gJ b hb)
theorem WM_same (h : hs_WM I J R N S U V K L T nm pm) (g : ∀ b, 188 ≤ b → I' b = I b) (gJ : ∀ b, 188 ≤ b → J' b = J b) : hs_WM I' J' R N S U V K L T nm pm :=
  WM_q h (fun b hb _ => g b hb) (fun j _ => by rw [g 188 (by omega)]) (fun j _ => by rw [g 204 (by omega)]) (fun b hb => gJ b (by omega))
/-- deeds by hand -/
theorem WX_ux {D' : hnD} (h : hs_WX I J R t t2 l l2 N S U V K L T nm pm) (g : hs_ux t N I J R U2 D') (hw : hs_Qw N.1 N.2.1 U2.1) : ∃ I2, D' = (I2, J, R) ∧ hs_WX I2 J R t t2 l l2 N S U2 V K L T nm pm ∧ ∀ b, 188 ≤ b → I2 b = I b := by
  obtain ⟨I2, J2, R2⟩ := D'
  obtain ⟨rfl, rfl, g1, g2, g3, g4, g5⟩ := g
  have g1 : ∀ b, ¬ hs_uc t b → I2 b = I b := g1
  have g3 : hs_Qx I2 44 N.1 N.2.1 0 U2.1 := g3
  have g4 : hs_px I2 N.1 N.2.1 U2.2.1 U2.2.2 := g4
  have g5 : hs_zs I2 := g5
  obtain ⟨⟨hR, r2, ht, hN, hX, hw0, hz, hAw⟩, zs, px, qs, ⟨r3, t3⟩, ⟨r4, r5, l3⟩, lx, vx, kx, tx, zn, nn⟩ := h
  unfold hs_uc at g1
  exact ⟨I2, rfl, ⟨⟨hR, r2, ht, hs_Nx_g hN (fun b hb => g1 b (by omega)), g3, hw, g5 49 (by decide +kernel), hAw⟩, g5, g4, hs_Qx_fr qs (fun b h1 h2 => g1 b (by omega)), ⟨r3, t3⟩, ⟨r4, r5, l3⟩, hs_Lx_g lx (fun b h1 h2 => g1 b (by omega)) rfl, hs_Vx_fr vx (fun b h1 h2 => g1 b (by omega)), hs_Kx_fr kx (fun b h1 h2 => g1 b (by omega)), hs_Tx_g tx (g1 1 (by omega)) (g1 2 (by omega)), hs_zn_g zn (fun b h1 h2 h3 h4 => g1 b (by omega)), hs_Nn_g nn (fun b hb => g1 b (by omega)) (fun b _ => rfl)⟩, fun b hb => g1 b (by omega)⟩
theorem WM_um {D' : hnD} (h : hs_WM I J R N S U V K L T nm pm) (g : hs_um I J R U2 D') (hw : hs_Qw N.1 N.2.1 U2.1) : ∃ I2, D' = (I2, J, R) ∧ hs_WM I2 J R N S U2 V K L T nm pm ∧ ∀ b, b < 188 → I2 b = I b := by
  obtain ⟨I2, J2, R2⟩ := D'
  obtain ⟨rfl, rfl, g1, g2, g3, g4, g5⟩ := g
  have g1 : ∀ b, ¬ (b = 188 ∨ b = 202 ∨ b = 203 ∨ b = 204) → I2 b = I b := g1
  have g2 : ∀ j, j ≠ 0 → j ≠ 24 → I2 188 j = I 188 j := g2
  have g3 : ∀ j, ¬ (j < 21 ∨ (235 ≤ j ∧ j < 987)) → I2 204 j = I 204 j := g3
  obtain ⟨⟨hR, hN, hQ, hfm, hw0, hAw⟩, pm0, sm, lm, vm, km, tm, nt, wm⟩ := h
  refine ⟨I2, rfl, ⟨⟨hR, ?_, g4, by rw [g2 26 (by omega) (by omega)]; exact hfm, hw, hAw⟩, g5, hs_Sm_g sm (g1 194 (by omega)), hs_Lm_g lm (g1 201 (by omega)), hs_Vm_fr vm (fun j h1 h2 => by rw [Nat.zero_add]; exact g3 j (by omega)), hs_Km_fr km (g1 205 (by omega)) (fun j h1 h2 => g3 j (by omega)), hs_Tm_g tm (g2 2 (by omega) (by omega)) (g1 189 (by omega)), hs_Nt_c nt (g1 199 (by omega)) (g2 18 (by omega) (by omega)) rfl, wm⟩, fun b hb => g1 b (by omega)⟩
  unfold hs_Nm hs_MN hs_ML at hN ⊢
  rw [g1 194 (by omega), g1 195 (by omega), g1 196 (by omega)]
  exact hN
/-- what is seen -/
theorem WX_see {D' : hnD} (h : hs_WX I J R t t2 l l2 N S U V K L T nm pm) (g : hs_fr I J R D' (fun c => 135 ≤ c ∧ c ≤ 138)) (gV : hs_Vx D'.1 135 V2) : ∃ I2, D' = (I2, J, R) ∧ hs_WX I2 J R t t2 l l2 N S U V2 K L T nm pm ∧ ∀ b, 188 ≤ b → I2 b = I b := by
  obtain ⟨I2, rfl, g1⟩ := g.out
  have gV : hs_Vx I2 135 V2 := gV
  obtain ⟨⟨hR, r2, ht, hN, hX, hw0, hz, hAw⟩, zs, px, qs, ⟨r3, t3⟩, ⟨r4, r5, l3⟩, lx, vx, kx, tx, zn, nn⟩ := h
  have g1 : ∀ b, ¬ (135 ≤ b ∧ b ≤ 138) → I2 b = I b := g1
  refine ⟨I2, rfl, ⟨⟨hR, r2, ht, hs_Nx_g hN (fun b hb => g1 b (by omega)), hs_Qx_fr hX (fun b h1 h2 => g1 b (by omega)), hw0, hs_z_fr hz (fun b h1 h2 => g1 b (by omega)), hAw⟩, fun a ha => ?_, hs_px_fr px (g1 0 (by omega)) (fun b h1 h2 => g1 b (by omega)), hs_Qx_fr qs (fun b h1 h2 => g1 b (by omega)), ⟨r3, t3⟩, ⟨r4, r5, l3⟩, hs_Lx_g lx (fun b h1 h2 => g1 b (by omega)) rfl, gV, hs_Kx_fr kx (fun b h1 h2 => g1 b (by omega)), hs_Tx_g tx (g1 1 (by omega)) (g1 2 (by omega)), hs_zn_g zn (fun b h1 h2 h3 h4 => g1 b (by omega)), hs_Nn_g nn (fun b hb => g1 b (by omega)) (fun b _ => rfl)⟩, fun b hb => g1 b (by omega)⟩
  have k : ∀ a, a ∈ hs_sc → a + 4 < 135 ∨ 138 < a := by decide +kernel
  have := k a ha
  exact hs_z_fr (zs a ha) (fun b h1 h2 => g1 b (by omega))
theorem WM_see {D' : hnD} (h : hs_WM I J R N S U V K L T nm pm) (g : hs_vm I J R V2 D') : ∃ I2, D' = (I2, J, R) ∧ hs_WM I2 J R N S U V2 K L T nm pm ∧ ∀ b, b < 188 → I2 b = I b := by
  obtain ⟨I2, J2, R2⟩ := D'
  obtain ⟨rfl, rfl, g1, g2, g3, g4⟩ := g
  have g1 : ∀ b, b ≠ 188 → b ≠ 204 → I2 b = I b := g1
  have g2 : ∀ j, j ≠ 0 → I2 188 j = I 188 j := g2
  have g3 : ∀ j, ¬ (21 ≤ j ∧ j < 47) → I2 204 j = I 204 j := g3
  obtain ⟨b0, pm0, sm, lm, vm, km, tm, nt, wm⟩ := h
  exact ⟨I2, rfl, ⟨hs_B_g b0 (g1 194 (by omega) (by omega)) (g1 195 (by omega) (by omega)) (g1 196 (by omega) (by omega)) (g2 26 (by omega)) (fun j hj => g3 j (by omega)), hs_pm_fr pm0 (g2 24 (by omega)) (fun j h1 h2 => g3 j (by omega)), hs_Sm_g sm (g1 194 (by omega) (by omega)), hs_Lm_g lm (g1 201 (by omega) (by omega)), g4, hs_Km_fr km (g1 205 (by omega) (by omega)) (fun j h1 h2 => g3 j (by omega)), hs_Tm_g tm (g2 2 (by omega)) (g1 189 (by omega) (by omega)), hs_Nt_c nt (g1 199 (by omega) (by omega)) (g2 18 (by omega)) rfl, wm⟩, fun b hb => g1 b (by omega) (by omega)⟩
/-- marks -/
theorem u_mark_p {x b : Int32} : ((u_mark (U, V, K) x b).1.1.2.1 = U.2.1 ∨ (u_mark (U, V, K) x b).1.1.2.1 = 0) ∧ (u_mark (U, V, K) x b).1.1.2.2 = U.2.2 := by
  unfold u_mark
  split
  · split
    · exact ⟨Or.inl rfl, rfl⟩
    · show ((match K x.toNatClampNeg with | none => ((U, V, K), (0 : Int32)) | some q => (((q.1, 0, U.2.2), q.2, K), 1)).1.1.2.1 = U.2.1 ∨ (match K x.toNatClampNeg with | none => ((U, V, K), (0 : Int32)) | some q => (((q.1, 0, U.2.2), q.2, K), 1)).1.1.2.1 = 0) ∧ (match K x.toNatClampNeg with | none => ((U, V, K), (0 : Int32)) | some q => (((q.1, 0, U.2.2), q.2, K), 1)).1.1.2.2 = U.2.2
      rcases (show K x.toNatClampNeg = none ∨ ∃ q, K x.toNatClampNeg = some q by cases K x.toNatClampNeg with | none => exact Or.inl rfl | some q => exact Or.inr ⟨q, rfl⟩) with e | ⟨q, e⟩
      · rw [e]; exact ⟨Or.inl rfl, rfl⟩
      · rw [e]; exact ⟨Or.inr rfl, rfl⟩
  · exact ⟨Or.inl rfl, rfl⟩
theorem WX_mark {D' : hnD} {Y : sp_Y} (h : hs_WX I J R t t2 l l2 N S U V K L T nm pm) (g : hs_kx I J R N Y D') (hY : (Y.1.2.1 = U.2.1 ∨ Y.1.2.1 = 0) ∧ Y.1.2.2 = U.2.2) (hw : hs_Qw N.1 N.2.1 Y.1.1) : ∃ I2, D' = (I2, J, R) ∧ hs_WX I2 J R t t2 l l2 N S Y.1 Y.2.1 Y.2.2 L T nm pm ∧ ∀ b, 188 ≤ b → I2 b = I b := by
  obtain ⟨I2, J2, R2⟩ := D'
  obtain ⟨rfl, rfl, g1, g2, g3, g4, g5, g6, g7⟩ := g
  have g1 : ∀ b, ¬ (b = 0 ∨ (44 ≤ b ∧ b ≤ 48) ∨ (135 ≤ b ∧ b ≤ 177)) → I2 b = I b := g1
  have g2 : ∀ i, i ≠ 9 → I2 0 i = I 0 i := g2
  have g3 : I2 0 9 = nI Y.1.2.1 := g3
  have g7 : hs_zs I2 := g7
  obtain ⟨⟨hR, r2, ht, hN, hX, hw0, hz, hAw⟩, zs, px, qs, ⟨r3, t3⟩, ⟨r4, r5, l3⟩, lx, vx, kx, tx, zn, nn⟩ := h
  have px2 : hs_px I2 N.1 N.2.1 Y.1.2.1 Y.1.2.2 := by
    obtain ⟨nw, p1, p2, p3, p4, p5⟩ := px
    refine ⟨nw, p1, by rw [g2 10 (by omega)]; exact p2, g3, by rcases hY.1 with e | e <;> omega, fun j hj => ?_⟩
    have hj2 : j < U.2.1 := by rcases hY.1 with e | e <;> omega
    rw [hY.2]
    have := Nat.mod_lt (nw + 16 - j) (show 16 > 0 by omega)
    exact hs_Qx_fr (p5 j hj2) (fun b h1 h2 => g1 b (by omega))
  exact ⟨I2, rfl, ⟨⟨hR, r2, ht, hs_Nx_g hN (fun b hb => g1 b (by omega)), g4, hw, g7 49 (by decide +kernel), hAw⟩, g7, px2, hs_Qx_fr qs (fun b h1 h2 => g1 b (by omega)), ⟨r3, t3⟩, ⟨r4, r5, l3⟩, hs_Lx_g lx (fun b h1 h2 => g1 b (by omega)) rfl, g5, g6, hs_Tx_g tx (g1 1 (by omega)) (g1 2 (by omega)), hs_zn_g zn (fun b h1 h2 h3 h4 => g1 b (by omega)), hs_Nn_g nn (fun b hb => g1 b (by omega)) (fun b _ => rfl)⟩, fun b hb => g1 b (by omega)⟩
theorem WM_mark {D' : hnD} {Y : sp_Y} (h : hs_WM I J R N S U V K L T nm pm) (g : hs_km I J R Y D') (hY : (Y.1.2.1 = U.2.1 ∨ Y.1.2.1 = 0) ∧ Y.1.2.2 = U.2.2) (hw : hs_Qw N.1 N.2.1 Y.1.1) : ∃ I2, D' = (I2, J, R) ∧ hs_WM I2 J R N S Y.1 Y.2.1 Y.2.2 L T nm pm ∧ ∀ b, b < 188 → I2 b = I b := by
  obtain ⟨I2, J2, R2⟩ := D'
  obtain ⟨rfl, rfl, g1, g2, g3, g4, g5, g6, g7⟩ := g
  have g1 : ∀ b, ¬ (b = 188 ∨ b = 204 ∨ b = 205) → I2 b = I b := g1
  have g2 : ∀ j, j ≠ 0 → j ≠ 24 → I2 188 j = I 188 j := g2
  have g3 : ∀ j, 235 ≤ j → I2 204 j = I 204 j := g3
  have g4 : I2 188 24 = nI Y.1.2.1 := g4
  obtain ⟨⟨hR, hN, hQ, hfm, hw0, hAw⟩, pm0, sm, lm, vm, km, tm, nt, wm⟩ := h
  have pm2 : hs_pm I2 Y.1.2.1 Y.1.2.2 := by
    obtain ⟨p1, p2, p3⟩ := pm0
    refine ⟨g4, by rcases hY.1 with e | e <;> omega, fun j hj => ?_⟩
    rcases hY.1 with e | e
    · rw [hY.2, e]
      exact hs_Qm_fr (p3 j (by omega)) (by omega) (fun i hi => g3 _ (by omega))
    · omega
  refine ⟨I2, rfl, ⟨⟨hR, ?_, g5, by rw [g2 26 (by omega) (by omega)]; exact hfm, hw, hAw⟩, pm2, hs_Sm_g sm (g1 194 (by omega)), hs_Lm_g lm (g1 201 (by omega)), g6, g7, hs_Tm_g tm (g2 2 (by omega) (by omega)) (g1 189 (by omega)), hs_Nt_c nt (g1 199 (by omega)) (g2 18 (by omega) (by omega)) rfl, wm⟩, fun b hb => g1 b (by omega)⟩
  unfold hs_Nm hs_MN hs_ML at hN ⊢
  rw [g1 194 (by omega), g1 195 (by omega), g1 196 (by omega)]
  exact hN
/-- the tape -/
theorem WX_feed {I2 : Nat → Nat → Int32} (h : hs_WX I J R t t2 l l2 N S U V K L T nm pm) (g1 : ∀ b, b ≠ 1 → b ≠ 2 → I2 b = I b) (gT : hs_Tx I2 T2) : hs_WX I2 J R t t2 l l2 N S U V K L T2 nm pm := by
  obtain ⟨⟨hR, r2, ht, hN, hX, hw0, hz, hAw⟩, zs, px, qs, ⟨r3, t3⟩, ⟨r4, r5, l3⟩, lx, vx, kx, tx, zn, nn⟩ := h
  exact ⟨⟨hR, r2, ht, hs_Nx_g hN (fun b hb => g1 b (by omega) (by omega)), hs_Qx_fr hX (fun b h1 h2 => g1 b (by omega) (by omega)), hw0, hs_z_fr hz (fun b h1 h2 => g1 b (by omega) (by omega)), hAw⟩, fun a ha => hs_z_fr (zs a ha) (fun b h1 h2 => by have := hs_sc_k a ha; exact g1 b (by omega) (by omega)), hs_px_fr px (g1 0 (by omega) (by omega)) (fun b h1 h2 => g1 b (by omega) (by omega)), hs_Qx_fr qs (fun b h1 h2 => g1 b (by omega) (by omega)), ⟨r3, t3⟩, ⟨r4, r5, l3⟩, hs_Lx_g lx (fun b h1 h2 => g1 b (by omega) (by omega)) rfl, hs_Vx_fr vx (fun b h1 h2 => g1 b (by omega) (by omega)), hs_Kx_fr kx (fun b h1 h2 => g1 b (by omega) (by omega)), gT, hs_zn_g zn (fun b h1 h2 h3 h4 => g1 b (by omega) (by omega)), hs_Nn_g nn (fun b hb => g1 b (by omega) (by omega)) (fun b _ => rfl)⟩
theorem WM_feed {I2 : Nat → Nat → Int32} (h : hs_WM I J R N S U V K L T nm pm) (g1 : ∀ b, b ≠ 188 → b ≠ 189 → I2 b = I b) (g2 : ∀ i, i ≠ 0 → i ≠ 2 → I2 188 i = I 188 i) (gT : hs_Tm I2 T2) : hs_WM I2 J R N S U V K L T2 nm pm := by
  obtain ⟨b0, pm0, sm, lm, vm, km, tm, nt, wm⟩ := h
  exact ⟨hs_B_g b0 (g1 194 (by omega) (by omega)) (g1 195 (by omega) (by omega)) (g1 196 (by omega) (by omega)) (g2 26 (by omega) (by omega)) (fun j hj => by rw [g1 204 (by omega) (by omega)]), hs_pm_fr pm0 (g2 24 (by omega) (by omega)) (fun j h1 h2 => by rw [g1 204 (by omega) (by omega)]), hs_Sm_g sm (g1 194 (by omega) (by omega)), hs_Lm_g lm (g1 201 (by omega) (by omega)), hs_Vm_fr vm (fun j h1 h2 => by rw [g1 204 (by omega) (by omega)]), hs_Km_fr km (g1 205 (by omega) (by omega)) (fun j h1 h2 => by rw [g1 204 (by omega) (by omega)]), gT, hs_Nt_c nt (g1 199 (by omega) (by omega)) (g2 18 (by omega) (by omega)) rfl, wm⟩
end HNdeeds
