section HNwrest
variable {I I' : Nat → Nat → Int32} {J J' : Nat → Nat → Int64} {R R' : Nat → Nat → Option Nat} {N : sp_N} {S : sp_Q} {U : sp_U} {V : sp_V} {K : sp_K} {L : sp_L} {T : sp_T} {nm pm : Nat → Nat} {t t2 l l2 : Nat}
/-- the tape's signs as numbers -/
def tf (T : sp_T) : Nat → Nat := fun i => (T.1 i).toNatClampNeg
theorem tf_ok (h : tp_ok T) : ∀ i, i < T.2 → T.1 i = nI (tf T i) ∧ tf T i < 128 := fun i hi => by
  obtain ⟨c, hc, e⟩ := h.2 i hi
  have hc : c = 10 ∨ (32 ≤ c ∧ c ≤ 126) := hc
  have e2 : tf T i = c := by unfold tf; rw [e]; exact nI_clamp (by omega)
  rw [e2]
  exact ⟨e, by omega⟩
theorem tf_x (h : tp_ok T) (hT : hs_Tx I T) : hs_Sg I (tf T) T.2 := ⟨h.1, fun i hi => ⟨(hT.2 i hi).trans (tf_ok h i hi).1, (tf_ok h i hi).2⟩⟩
theorem tf_m (h : tp_ok T) (hT : hs_Tm I T) : ∀ i, i < T.2 → I 189 i = nI (tf T i) ∧ tf T i < 128 := fun i hi => ⟨(hT.2 i hi).trans (tf_ok h i hi).1, (tf_ok h i hi).2⟩
theorem tf_v (h : tp_ok T) : ∀ k, (tq (tf T) T.2 k).1 = 3 → (tq (tf T) T.2 k).2.2.2 < 128 := by
  have hS : hs_Sg (fun _ => T.1) (tf T) T.2 := ⟨h.1, tf_ok h⟩
  exact fun k => (tq_v hS k).2.2
abbrev tp_0 (T : sp_T) : sp_T := (T.1, 0)
theorem tp_0_ok : tp_ok (tp_0 T) := ⟨by show 0 ≤ 1000; omega, fun i hi => absurd hi (Nat.not_lt_zero _)⟩
theorem refs_k : ∀ x, x ∈ hn_reft → (x.1 = 1 → ¬ x.2.1 = 5) ∧ ¬ x.1 = 37 ∧ ¬ x.1 = 41 ∧ (x.1 = 0 → ¬ x.2.1 = 2 ∧ ¬ x.2.1 = 3 ∧ ¬ x.2.1 = 4 ∧ ¬ x.2.1 = 5) := by decide +kernel
theorem refs_g (h : hs_refs R) (g : ∀ b, b ≠ 0 → b ≠ 1 → b ≠ 37 → b ≠ 41 → R' b = R b) (g0 : ∀ i, i ≠ 2 → i ≠ 3 → i ≠ 4 → i ≠ 5 → R' 0 i = R 0 i) (g1 : ∀ i, i ≠ 5 → R' 1 i = R 1 i) : hs_refs R' := by
  intro x hx
  obtain ⟨k1, k2, k3, k4⟩ := refs_k x hx
  have e := h x hx
  by_cases h0 : x.1 = 0
  · obtain ⟨a, b, c, d⟩ := k4 h0
    rw [h0] at e ⊢
    rw [g0 _ a b c d]; exact e
  by_cases h1 : x.1 = 1
  · rw [h1] at e ⊢
    rw [g1 _ (k1 h1)]; exact e
  rw [g _ h0 h1 k2 k3]; exact e
theorem WM_R (h : hs_WM I J R N S U V K L T nm pm) (g : hs_refs R') : hs_WM I J R' N S U V K L T nm pm := by
  obtain ⟨⟨hR, b0⟩, h1⟩ := h
  exact ⟨⟨g, b0⟩, h1⟩
/-- lines told: the rest as it is then -/
def rz (T : sp_T) (nm : Nat → Nat) (kn : Nat) (pm : Nat → Nat) (pn : Nat) : rd × sp_L := p_rest (tf T) T.2 nm kn pm pn 41 ((0, 0), lx_0)
def rzL (L : sp_L) (Z : rd × sp_L) : sp_L := if Z.1.1 = 0 then Z.2 else L
theorem W_X_rest (h : hs_Wo I J R t t2 l l2 N S U V K L T nm pm) : hn_F 6 hm_X_rest [.ref 0] (I, J, R) (fun r D' => r = some (.int (nI (rz T nm N.1 pm N.2.1).1.1)) ∧ ∃ I1 J1 R1 l' l2', D' = (I1, J1, R1) ∧ hs_WX I1 J1 R1 t t2 l' l2' N S U V K (rzL L (rz T nm N.1 pm N.2.1)) (tp_0 T) nm pm ∧ hs_WM I1 J1 R1 N S U V K L T nm pm ∧ (rzL L (rz T nm N.1 pm N.2.1)).1 ≤ 40) := by
  obtain ⟨hWX, hWM, n8, n4, sw, uw, vw, kw, lw, l40, tok, n1, jw⟩ := h
  obtain ⟨⟨hR, r2, ht, hN, hX, hw0, hz, hAw⟩, zs, px, qs, ⟨r3, t3⟩, ⟨r4, r5, l3⟩, lx, vx, kx, tx, zn, nn⟩ := id hWX
  have hL2 : hs_Lr R l2 := hs_Lr_of hR (by omega)
  have hNt := hs_Net_of hR ht
  have hSt : hs_St R (t + 11) := hs_St_of hR (by rcases ht with rfl | rfl <;> decide +kernel)
  refine (q_X_rest (J := J) hR r2 r4 r5 (tf_x tok tx) tx.1 hNt hSt nn hL2).mono (fun r D' hq => ?_)
  obtain ⟨rfl, hb, I3, J3, R3, g, gL, hD⟩ := hq
  refine ⟨rfl, ?_⟩
  obtain ⟨Z, hZ⟩ : ∃ Z, Z = rz T nm N.1 pm N.2.1 := ⟨_, rfl⟩
  have gL : Z.1.1 = 0 → hs_Lx I3 R3 l2 Z.2 := by rw [hZ]; exact gL
  have hD : (¬ Z.1.1 = 0 ∧ D' = (hn_u I3 1 1 0, J3, R3)) ∨ (Z.1.1 = 0 ∧ D' = (hn_u I3 1 1 0, J3, hn_u (hn_u R3 0 4 (some l2)) 0 5 (some l))) := by rw [hZ]; exact hD
  rw [← hZ]
  obtain ⟨I4, hI4⟩ : ∃ z, z = hn_u I3 1 1 0 := ⟨_, rfl⟩
  rw [← hI4] at hD
  have e3 : ∀ b, b ≠ 1 → I4 b = I3 b := fun b hb => by rw [hI4, hn_u_ne _ _ _ hb]
  have e : ∀ b, b ≠ 1 → b ≠ 3 → b ≠ l2 → b ≠ l2 + 2 → b ≠ l2 + 3 → I4 b = I b := fun b h1 h2 h3 h4 h5 => (e3 b h1).trans (g.1 b h1 h2 h3 h4 h5)
  have eT : hs_Tx I4 (tp_0 T) := ⟨by rw [hI4, hn_u_eq, va_up, if_pos rfl]; rfl, fun i hi => absurd hi (Nat.not_lt_zero _)⟩
  have z4 : hs_zs I4 := fun a ha => hs_z_fr (zs a ha) (fun b h1 h2 => by
    have k : ∀ a, a ∈ hs_sc → 3 < a ∧ (a + 4 < 36 ∨ 43 < a) := by decide +kernel
    have := k a ha
    exact e b (by omega) (by omega) (by omega) (by omega) (by omega))
  have R3e : ∀ b, b ≠ 1 → b ≠ l2 + 1 → R3 b = R b := g.2.2.1
  have mk : ∀ (R5 : Nat → Nat → Option Nat) (l' l2' : Nat) (L' : sp_L), hs_refs R5 → R5 0 2 = some t → R5 0 3 = some t2 → R5 0 4 = some l' → R5 0 5 = some l2' → ((l' = 36 ∧ l2' = 40) ∨ (l' = 40 ∧ l2' = 36)) → hs_Lx I4 R5 l' L' → hs_WX I4 J3 R5 t t2 l' l2' N S U V K L' (tp_0 T) nm pm ∧ hs_WM I4 J3 R5 N S U V K L T nm pm := fun R5 l' l2' L' q1 q2 q3 q4 q5 q6 q7 =>
    ⟨⟨⟨q1, q2, ht, hs_Nx_g hN (fun b hb => e b (by omega) (by omega) (by omega) (by omega) (by omega)), hs_Qx_fr hX (fun b h1 h2 => e b (by omega) (by omega) (by omega) (by omega) (by omega)), hw0, z4 49 (by decide +kernel), hAw⟩, z4, hs_px_fr px (e 0 (by omega) (by omega) (by omega) (by omega) (by omega)) (fun b h1 h2 => e b (by omega) (by omega) (by omega) (by omega) (by omega)), hs_Qx_fr qs (fun b h1 h2 => e b (by omega) (by omega) (by omega) (by omega) (by omega)), ⟨q3, t3⟩, ⟨q4, q5, q6⟩, q7, hs_Vx_fr vx (fun b h1 h2 => e b (by omega) (by omega) (by omega) (by omega) (by omega)), hs_Kx_fr kx (fun b h1 h2 => e b (by omega) (by omega) (by omega) (by omega) (by omega)), eT, hs_zn_g zn (fun b h1 h2 h3 h4 => e b (by omega) (by omega) (by omega) (by omega) (by omega)), hs_Nn_g nn (fun b hb => e b (by omega) (by omega) (by omega) (by omega) (by omega)) (fun b hb => g.2.1 b (by omega))⟩, WM_R (WM_same hWM (fun b hb => e b (by omega) (by omega) (by omega) (by omega) (by omega)) (fun b hb => g.2.1 b (by omega))) q1⟩
  rcases hD with ⟨h0, rfl⟩ | ⟨h0, rfl⟩
  · have m := mk R3 l l2 L (refs_g hR (fun b b0 b1 b2 b3 => R3e b b1 (by omega)) (fun i _ _ _ _ => by rw [R3e 0 (by omega) (by omega)]) g.2.2.2) (by rw [R3e 0 (by omega) (by omega)]; exact r2) (by rw [R3e 0 (by omega) (by omega)]; exact r3) (by rw [R3e 0 (by omega) (by omega)]; exact r4) (by rw [R3e 0 (by omega) (by omega)]; exact r5) l3 (hs_Lx_g lx (fun b h1 h2 => e b (by omega) (by omega) (by omega) (by omega) (by omega)) (R3e _ (by omega) (by omega)))
    rw [show rzL L Z = L from if_neg h0]
    exact ⟨I4, J3, R3, l, l2, rfl, m.1, m.2, l40⟩
  · have gl := gL h0
    obtain ⟨R5, hR5⟩ : ∃ z, z = hn_u (hn_u R3 0 4 (some l2)) 0 5 (some l) := ⟨_, rfl⟩
    have f5 : ∀ b, b ≠ 0 → R5 b = R3 b := fun b hb => by rw [hR5, hn_u_ne _ _ _ hb, hn_u_ne _ _ _ hb]
    have f50 : ∀ i, i ≠ 4 → i ≠ 5 → R5 0 i = R 0 i := fun i h4 h5 => by rw [hR5, hn_u_eq, va_up, if_neg h5, hn_u_eq, va_up, if_neg h4, R3e 0 (by omega) (by omega)]
    have m := mk R5 l2 l Z.2 (refs_g hR (fun b b0 b1 b2 b3 => by rw [f5 b b0]; exact R3e b b1 (by omega)) (fun i _ _ i4 i5 => f50 i i4 i5) (fun i hi => by rw [f5 1 (by omega)]; exact g.2.2.2 i hi)) (by rw [f50 2 (by omega) (by omega)]; exact r2) (by rw [f50 3 (by omega) (by omega)]; exact r3) (by rw [hR5, hn_u_eq, va_up, if_neg (by omega), hn_u_eq, va_up, if_pos rfl]) (by rw [hR5, hn_u_eq, va_up, if_pos rfl]) (by omega) (hs_Lx_g gl (fun b h1 h2 => e3 b (by omega)) (f5 _ (by omega)))
    rw [← hR5, show rzL L Z = Z.2 from if_pos h0]
    exact ⟨I4, J3, R5, l2, l, rfl, m.1, m.2, gl.2.1⟩
theorem W_M_rest {L2 : sp_L} (hL2 : L2 = rzL L (rz T nm N.1 pm N.2.1)) (l40' : L2.1 ≤ 40) (hWX : hs_WX I J R t t2 l l2 N S U V K L2 (tp_0 T) nm pm) (hWM : hs_WM I J R N S U V K L T nm pm) (hw : hs_Ww N S U V K L T nm pm) : hn_F 5 hm_M_rest [.ref 188] (I, J, R) (fun r D' => r = some (.int (nI (rz T nm N.1 pm N.2.1).1.1)) ∧ ∃ I1 J1, D' = (I1, J1, R) ∧ hs_Wo I1 J1 R t t2 l l2 N S U V K L2 (tp_0 T) nm pm) := by
  obtain ⟨n8, n4, sw, uw, vw, kw, lw, l40, tok, n1, jw⟩ := hw
  obtain ⟨b0, pm0, sm, lm, vm, km, tm, nt, wm⟩ := id hWM
  refine (q_M_rest b0.1 wm tok.1 (tf_m tok tm) tm.1 (tf_v tok) nt jw).mono (fun r D' hq => ?_)
  obtain ⟨rfl, hb, I2, J2, rfl, g2, g0, g, hZ⟩ := hq
  obtain ⟨Z, hZd⟩ : ∃ Z, Z = rz T nm N.1 pm N.2.1 := ⟨_, rfl⟩
  have hZ : (¬ Z.1.1 = 0 ∧ ∀ j, j < 125 → I2 201 j = I 201 j) ∨ (Z.1.1 = 0 ∧ hs_Lm I2 Z.2) := by rw [hZd]; exact hZ
  rw [← hZd] at hL2
  have lw2 : Z.1.1 = 0 → hs_Lw N.1 N.2.1 Z.2 := fun z => by
    rw [hZd] at z ⊢
    exact p_rest_w z (fun _ i hi => absurd hi (Nat.not_lt_zero _))
  obtain ⟨f1, f2, f3⟩ := g
  refine ⟨rfl, I2, J2, rfl, WX_same hWX (fun b hb => f1 b (by omega) (by omega) (by omega) (by omega)) (fun b hb => f3 b (by omega)), ⟨hs_B_g b0 (f1 194 (by omega) (by omega) (by omega) (by omega)) (f1 195 (by omega) (by omega) (by omega) (by omega)) (f1 196 (by omega) (by omega) (by omega) (by omega)) (f2 26 (by omega) (by omega) (by omega) (by omega) (by omega)) (fun j hj => by rw [f1 204 (by omega) (by omega) (by omega) (by omega)]), hs_pm_fr pm0 (f2 24 (by omega) (by omega) (by omega) (by omega) (by omega)) (fun j h1 h2 => by rw [f1 204 (by omega) (by omega) (by omega) (by omega)]), hs_Sm_g sm (f1 194 (by omega) (by omega) (by omega) (by omega)), ?_, hs_Vm_fr vm (fun j h1 h2 => by rw [f1 204 (by omega) (by omega) (by omega) (by omega)]), hs_Km_fr km (f1 205 (by omega) (by omega) (by omega) (by omega)) (fun j h1 h2 => by rw [f1 204 (by omega) (by omega) (by omega) (by omega)]), ⟨g2, fun i hi => absurd hi (Nat.not_lt_zero _)⟩, hs_Nt_c nt (f1 199 (by omega) (by omega) (by omega) (by omega)) (f2 18 (by omega) (by omega) (by omega) (by omega) (by omega)) (f3 197 (by omega)), hs_Wm_c wm (f3 193 (by omega))⟩, n8, n4, sw, uw, vw, kw, ?_, l40', tp_0_ok, n1, jw⟩
  · rcases hZ with ⟨z, hl⟩ | ⟨z, hl⟩
    · rw [hL2, show rzL L Z = L from if_neg z]
      obtain ⟨m1, m2⟩ := lm
      exact ⟨by rw [hl 0 (by omega)]; exact m1, fun i hi => by rw [hl _ (by omega), hl _ (by omega), hl _ (by omega)]; exact m2 i hi⟩
    · rw [hL2, show rzL L Z = Z.2 from if_pos z]
      exact hl
  · by_cases z : Z.1.1 = 0
    · rw [hL2, show rzL L Z = Z.2 from if_pos z]; exact lw2 z
    · rw [hL2, show rzL L Z = L from if_neg z]; exact lw
end HNwrest
