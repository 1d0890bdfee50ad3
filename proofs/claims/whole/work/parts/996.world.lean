section HNworldd
variable {I I' : Nat → Nat → Int32} {J J' : Nat → Nat → Int64} {R R' : Nat → Nat → Option Nat} {N : sp_N} {S : sp_Q} {U : sp_U} {V : sp_V} {K : sp_K} {L : sp_L} {T : sp_T} {nm pm : Nat → Nat} {t t2 l l2 : Nat}
/-! all that both hold: the class's cells, the reference's, what is true of it -/
def hs_WX (I : Nat → Nat → Int32) (J : Nat → Nat → Int64) (R : Nat → Nat → Option Nat) (t t2 l l2 : Nat) (N : sp_N) (S : sp_Q) (U : sp_U) (V : sp_V) (K : sp_K) (L : sp_L) (T : sp_T) (nm pm : Nat → Nat) : Prop :=
  hs_A I R t N U.1 ∧ hs_zs I ∧ hs_px I N.1 N.2.1 U.2.1 U.2.2 ∧ hs_Qx I (t + 11) N.1 N.2.1 0 S ∧ (R 0 3 = some t2 ∧ ((t = 4 ∧ t2 = 20) ∨ (t = 20 ∧ t2 = 4))) ∧ (R 0 4 = some l ∧ R 0 5 = some l2 ∧ ((l = 36 ∧ l2 = 40) ∨ (l = 40 ∧ l2 = 36))) ∧ hs_Lx I R l L ∧ hs_Vx I 135 V ∧ hs_Kx I N.1 N.2.1 K ∧ hs_Tx I T ∧ hs_zn I t2 ∧ hs_Nn I J t N.1 nm N.2.1 pm
def hs_WM (I : Nat → Nat → Int32) (J : Nat → Nat → Int64) (R : Nat → Nat → Option Nat) (N : sp_N) (S : sp_Q) (U : sp_U) (V : sp_V) (K : sp_K) (L : sp_L) (T : sp_T) (nm pm : Nat → Nat) : Prop :=
  hs_B I R N U.1 ∧ hs_pm I U.2.1 U.2.2 ∧ hs_Sm I N S ∧ hs_Lm I L ∧ hs_Vm I 0 V ∧ hs_Km I K ∧ hs_Tm I T ∧ hs_Nt I J N.1 nm N.2.1 pm ∧ hs_Wm J
def hs_Uw (N : sp_N) (U : sp_U) : Prop := hs_Qw N.1 N.2.1 U.1 ∧ ∀ j, j < U.2.1 → hs_Qw N.1 N.2.1 (U.2.2 j)
def hs_Kw (N : sp_N) (K : sp_K) : Prop := ∀ m q, m < 4 → K m = some q → hs_Qw N.1 N.2.1 q.1 ∧ hs_Vw N.1 q.2
def hs_Ww (N : sp_N) (S : sp_Q) (U : sp_U) (V : sp_V) (K : sp_K) (L : sp_L) (T : sp_T) (nm pm : Nat → Nat) : Prop :=
  N.1 ≤ 8 ∧ N.2.1 ≤ 4 ∧ hs_Qw N.1 N.2.1 S ∧ hs_Uw N U ∧ hs_Vw N.1 V ∧ hs_Kw N K ∧ hs_Lw N.1 N.2.1 L ∧ L.1 ≤ 40 ∧ tp_ok T ∧ (0 < N.2.1 → 1 ≤ N.1) ∧ hs_Jw N.1 nm N.2.1 pm
/-- rows of the class that a question does not touch -/
theorem hs_Nx_g (h : hs_Nx I t N) (g : ∀ b, b = t ∨ b = t + 2 ∨ b = t + 3 ∨ b = t + 4 ∨ b = t + 6 ∨ b = t + 7 → I' b = I b) : hs_Nx I' t N := by
  unfold hs_Nx hs_code at h ⊢
  rw [g t (by omega), g (t + 2) (by omega), g (t + 3) (by omega), g (t + 4) (by omega), g (t + 6) (by omega), g (t + 7) (by omega)]
  exact h
theorem hs_Lx_g {l : Nat} (h : hs_Lx I R l L) (g : ∀ b, l ≤ b → b ≤ l + 3 → I' b = I b) (gR : R' (l + 1) = R (l + 1)) : hs_Lx I' R' l L := by
  unfold hs_Lx at h ⊢
  rw [g l (by omega) (by omega), g (l + 2) (by omega) (by omega), g (l + 3) (by omega) (by omega), gR]
  exact h
theorem hs_Tx_g (h : hs_Tx I T) (g1 : I' 1 = I 1) (g2 : I' 2 = I 2) : hs_Tx I' T := by
  unfold hs_Tx at h ⊢
  rw [g1, g2]
  exact h
theorem hs_zn_g (h : hs_zn I t) (g : ∀ b, t ≤ b → b ≤ t + 15 → b ≠ t + 9 → b ≠ t + 10 → I' b = I b) : hs_zn I' t := by
  unfold hs_zn hs_z at h ⊢
  rw [g (t + 4) (by omega) (by omega) (by omega) (by omega), g (t + 11 + 1) (by omega) (by omega) (by omega) (by omega), g (t + 11 + 2) (by omega) (by omega) (by omega) (by omega), g (t + 11 + 3) (by omega) (by omega) (by omega) (by omega), g (t + 11 + 4) (by omega) (by omega) (by omega) (by omega)]
  exact h
theorem hs_Nn_g {kn pn : Nat} (h : hs_Nn I J t kn nm pn pm) (g : ∀ b, b = t ∨ b = t + 11 → I' b = I b) (gJ : ∀ b, b = t + 1 ∨ b = t + 5 → J' b = J b) : hs_Nn I' J' t kn nm pn pm := by
  unfold hs_Nn at h ⊢
  rw [g t (by omega), g (t + 11) (by omega), gJ (t + 1) (by omega), gJ (t + 5) (by omega)]
  exact h
theorem hs_sc_k : ∀ a, a ∈ hs_sc → 15 ≤ a ∧ a + 4 < 179 ∧ (a = 49 ∨ a + 4 < 49 ∨ 53 < a) ∧ (a + 4 < 13 ∨ 14 < a) ∧ (a + 4 < 29 ∨ 30 < a) := by decide +kernel
theorem WX_q (h : hs_WX I J R t t2 l l2 N S U V K L T nm pm) (g : ∀ b, b < 188 → ¬ hs_xs t b → I' b = I b) (hz : hs_z I' 49) (gJ : ∀ b, b < 188 → b ≠ 0 → b ≠ 184 → b ≠ 185 → J' b = J b) : hs_WX I' J' R t t2 l l2 N S U V K L T nm pm := by
  obtain ⟨⟨hR, r2, ht, hN, hX, hw, _, hAw⟩, zs, px, qs, ⟨r3, t3⟩, ⟨r4, r5, l3⟩, lx, vx, kx, tx, zn, nn⟩ := h
  unfold hs_xs at g
  refine ⟨⟨hR, r2, ht, hs_Nx_g hN (fun b hb => g b (by omega) (by omega)), hs_Qx_fr hX (fun b h1 h2 => g b (by omega) (by omega)), hw, hz, hAw⟩, fun a ha => ?_, hs_px_fr px (g 0 (by omega) (by omega)) (fun b h1 h2 => g b (by omega) (by omega)), hs_Qx_fr qs (fun b h1 h2 => g b (by omega) (by omega)), ⟨r3, t3⟩, ⟨r4, r5, l3⟩, hs_Lx_g lx (fun b h1 h2 => g b (by omega) (by omega)) rfl, hs_Vx_fr vx (fun b h1 h2 => g b (by omega) (by omega)), hs_Kx_fr kx (fun b h1 h2 => g b (by omega) (by omega)), hs_Tx_g tx (g 1 (by omega) (by omega)) (g 2 (by omega) (by omega)), hs_zn_g zn (fun b h1 h2 h3 h4 => g b (by omega) (by omega)), hs_Nn_g nn (fun b hb => g b (by omega) (by omega)) (fun b hb => gJ b (by omega) (by omega) (by omega) (by omega))⟩
  have k := hs_sc_k a ha
  by_cases h49 : a = 49
  · rw [h49]; exact hz
  · exact hs_z_fr (zs a ha) (fun b h1 h2 => g b (by omega) (by omega))
/-- .. of the reference -/
theorem hs_Tm_g (h : hs_Tm I T) (g1 : I' 188 2 = I 188 2) (g2 : I' 189 = I 189) : hs_Tm I' T := by
  unfold hs_Tm at h ⊢
  rw [g1, g2]
  exact h
theorem hs_Sm_g (h : hs_Sm I N S) (g : I' 194 = I 194) : hs_Sm I' N S := by
  unfold hs_Sm at h ⊢
  rw [g]
  exact h
theorem hs_Lm_g (h : hs_Lm I L) (g : I' 201 = I 201) : hs_Lm I' L := by
  unfold hs_Lm at h ⊢
  rw [g]
  exact h
theorem hs_B_g {Q : sp_Q} (h : hs_B I R N Q) (g4 : I' 194 = I 194) (g5 : I' 195 = I 195) (g6 : I' 196 = I 196) (g26 : I' 188 26 = I 188 26) (g : ∀ j, j < 21 → I' 204 j = I 204 j) : hs_B I' R N Q := by
  obtain ⟨hR, hN, hQ, hfm, hw, hAw⟩ := h
  refine ⟨hR, ?_, hs_Qm_fr hQ (by omega) (fun j hj => by rw [Nat.zero_add]; exact g j hj), by rw [g26]; exact hfm, hw, hAw⟩
  unfold hs_Nm hs_MN hs_ML at hN ⊢
  rw [g4, g5, g6]
  exact hN
theorem WM_q (h : hs_WM I J R N S U V K L T nm pm) (g : ∀ b, 188 ≤ b → ¬ hs_ms b → I' b = I b) (g8 : ∀ j, 0 < j → I' 188 j = I 188 j) (g4 : ∀ j, j < 987 → I' 204 j = I 204 j) (gJ : ∀ b, 188 < b → J' b = J b) : hs_WM I' J' R N S U V K L T nm pm := by
  obtain ⟨b0, pm0, sm, lm, vm, km, tm, nt, wm⟩ := h
  unfold hs_ms at g
  exact ⟨hs_B_g b0 (g 194 (by omega) (by omega)) (g 195 (by omega) (by omega)) (g 196 (by omega) (by omega)) (g8 26 (by omega)) (fun j hj => g4 j (by omega)), hs_pm_fr pm0 (g8 24 (by omega)) (fun j h1 h2 => g4 j h2), hs_Sm_g sm (g 194 (by omega) (by omega)), hs_Lm_g lm (g 201 (by omega) (by omega)), hs_Vm_fr vm (fun j h1 h2 => by rw [Nat.zero_add]; exact g4 j (by omega)), hs_Km_fr km (g 205 (by omega) (by omega)) (fun j h1 h2 => g4 j (by omega)), hs_Tm_g tm (g8 2 (by omega)) (g 189 (by omega) (by omega)), hs_Nt_c nt (g 199 (by omega) (by omega)) (g8 18 (by omega)) (gJ 197 (by omega)), hs_Wm_c wm (gJ 193 (by omega))⟩
def hs_Wo (I : Nat → Nat → Int32) (J : Nat → Nat → Int64) (R : Nat → Nat → Option Nat) (t t2 l l2 : Nat) (N : sp_N) (S : sp_Q) (U : sp_U) (V : sp_V) (K : sp_K) (L : sp_L) (T : sp_T) (nm pm : Nat → Nat) : Prop := hs_WX I J R t t2 l l2 N S U V K L T nm pm ∧ hs_WM I J R N S U V K L T nm pm ∧ hs_Ww N S U V K L T nm pm
/-- a question to the class, to the reference -/
theorem W_sx {D' : hnD} (h : hs_Wo I J R t t2 l l2 N S U V K L T nm pm) (g : hs_sx t I J R D') : ∃ I2 J2, D' = (I2, J2, R) ∧ hs_Wo I2 J2 R t t2 l l2 N S U V K L T nm pm := by
  obtain ⟨I2, J2, R2⟩ := D'
  obtain ⟨rfl, g1, g2, g3⟩ := g
  have g1 : ∀ b, ¬ hs_xs t b → I2 b = I b := g1
  have g2 : ∀ b, b ≠ 0 → b ≠ 184 → b ≠ 185 → J2 b = J b := g2
  have ht := h.1.1.2.2.1
  have e : ∀ b, 188 ≤ b → I2 b = I b := fun b hb => g1 b (by unfold hs_xs; omega)
  refine ⟨I2, J2, rfl, WX_q h.1 (fun b _ hb => g1 b hb) g3 (fun b _ h0 h1 h2 => g2 b h0 h1 h2), WM_q h.2.1 (fun b hb _ => e b hb) (fun j _ => by rw [e 188 (by omega)]) (fun j _ => by rw [e 204 (by omega)]) (fun b hb => g2 b (by omega) (by omega) (by omega)), h.2.2⟩
theorem W_sm {D' : hnD} (h : hs_Wo I J R t t2 l l2 N S U V K L T nm pm) (g : hs_sm I J R D') : ∃ I2 J2, D' = (I2, J2, R) ∧ hs_Wo I2 J2 R t t2 l l2 N S U V K L T nm pm := by
  obtain ⟨I2, J2, R2⟩ := D'
  obtain ⟨rfl, g1, g2, g3, g4⟩ := g
  have g1 : ∀ b, ¬ hs_ms b → I2 b = I b := g1
  have g4 : ∀ b, b ≠ 188 → J2 b = J b := g4
  have e : ∀ b, b < 188 → I2 b = I b := fun b hb => g1 b (by unfold hs_ms; omega)
  refine ⟨I2, J2, rfl, WX_q h.1 (fun b hb _ => e b hb) (hs_z_fr h.1.1.2.2.2.2.2.2.1 (fun b h1 h2 => e b (by omega))) (fun b hb _ _ _ => g4 b (by omega)), WM_q h.2.1 (fun b _ hb => g1 b hb) g2 g3 (fun b hb => g4 b (by omega)), h.2.2⟩
/-! what stays true of it -/
theorem u_push_w {q : sp_Q} (h : hs_Uw N U) (hq : hs_Qw N.1 N.2.1 q) : hs_Uw N (u_push U q) := by
  refine ⟨hq, fun j hj => ?_⟩
  have hj : j < sp_pl U.2.1 := hj
  show hs_Qw N.1 N.2.1 (sp_pe U.1 U.2.2 j)
  cases j with
  | zero => exact h.1
  | succ j =>
    have : sp_pl U.2.1 ≤ U.2.1 + 1 := by unfold sp_pl; split <;> omega
    exact h.2 j (by omega)
theorem in_lt {x : Int32} {n : Nat} (h : sp_in x n) : x.toNatClampNeg < n ∧ x = nI x.toNatClampNeg := by
  have h1 := h.1
  have h2 := h.2
  have e : ((x.toNatClampNeg : Nat) : Int) = x.toInt := Int.toNat_of_nonneg h1
  exact ⟨by omega, hi_nI e.symm⟩
theorem u_hour_w (h4 : N.2.1 ≤ 4) (h : hs_Uw N U) : hs_Uw N (u_hour N U).1 := u_push_w h (sp_hr_w h4 h.1)
theorem u_shift_w {x y : Int32} (h4 : N.2.1 ≤ 4) (h : hs_Uw N U) : hs_Uw N (u_shift N U x y).1 := by
  unfold u_shift
  split
  · rename_i c
    exact u_push_w h (sp_sh_w h.1 (in_lt c.1).1 (in_lt c.2.1).1 h4)
  · exact h
theorem u_rouse_w {x : Int32} (h4 : N.2.1 ≤ 4) (h : hs_Uw N U) : hs_Uw N (u_rouse N U x).1 := by
  unfold u_rouse
  split
  · rename_i c
    exact u_push_w h (sp_put_w h.1 (in_lt c.1).1 h4 (Or.inl rfl))
  · exact h
theorem u_lie_w {x y : Int32} (h4 : N.2.1 ≤ 4) (h : hs_Uw N U) : hs_Uw N (u_lie N U x y).1 := by
  unfold u_lie
  split
  · rename_i c
    exact u_push_w h (sp_put_w h.1 (in_lt c.1).1 h4 (Or.inr ⟨_, (in_lt c.2.1).1, (in_lt c.2.1).2⟩))
  · exact h
theorem u_tie_w {x y : Int32} (h8 : N.1 ≤ 8) (h : hs_Uw N U) : hs_Uw N (u_tie N U x y).1 := by
  unfold u_tie
  split
  · rename_i c
    exact u_push_w h (sp_tie_w h.1 (in_lt c.1).1 (in_lt c.2.1).1 h8 (fun z => c.2.2 (by rw [(in_lt c.1).2, (in_lt c.2.1).2, z])))
  · exact h
theorem u_undo_w (h : hs_Uw N U) : hs_Uw N (u_undo U).1 := by
  unfold u_undo
  split
  · exact h
  · rename_i c
    exact ⟨h.2 0 (by omega), fun j hj => h.2 (j + 1) (by have hj : j < U.2.1 - 1 := hj; omega)⟩
theorem v_see_w {x y z b : Int32} (hb : b = 0 ∨ b = 1) (h : hs_Vw N.1 V) (hV : V.2.1 ≤ 8) : hs_Vw N.1 (v_see N V x y z b).1 := by
  unfold v_see
  split
  · rename_i c
    unfold sp_see
    split
    · exact h
    · rename_i c2
      obtain ⟨v1, v2, v3⟩ := h
      refine ⟨fun _ => ⟨_, (in_lt c.1).1, (in_lt c.1).2⟩, fun i hi => ?_, fun i hi => ?_⟩
      · have hi : i < (if V.1 = x then V.2.1 else 0) + 1 := hi
        show ∃ j, j ≤ 30 ∧ va_up V.2.2.2.1 (if V.1 = x then V.2.1 else 0) z i = nI j
        rw [va_up]
        by_cases hk : i = (if V.1 = x then V.2.1 else 0)
        · rw [if_pos hk]
          have e : ((z.toNatClampNeg : Nat) : Int) = z.toInt := Int.toNat_of_nonneg c.2.2.1
          exact ⟨z.toNatClampNeg, by have := c.2.2.2; omega, hi_nI e.symm⟩
        · rw [if_neg hk]
          by_cases hx : V.1 = x
          · rw [if_pos hx] at hi hk; exact v2 i (by omega)
          · rw [if_neg hx] at hi hk; omega
      · have hi : i < (if V.1 = x then V.2.1 else 0) + 1 := hi
        show va_up V.2.2.2.2 (if V.1 = x then V.2.1 else 0) b i = 0 ∨ va_up V.2.2.2.2 (if V.1 = x then V.2.1 else 0) b i = 1
        rw [va_up]
        by_cases hk : i = (if V.1 = x then V.2.1 else 0)
        · rw [if_pos hk]; exact hb
        · rw [if_neg hk]
          by_cases hx : V.1 = x
          · rw [if_pos hx] at hi hk; exact v3 i (by omega)
          · rw [if_neg hx] at hi hk; omega
  · exact h
theorem u_mark_w {x b : Int32} (hU : hs_Uw N U) (hV : hs_Vw N.1 V) (hK : hs_Kw N K) : hs_Uw N (u_mark (U, V, K) x b).1.1 ∧ hs_Vw N.1 (u_mark (U, V, K) x b).1.2.1 ∧ hs_Kw N (u_mark (U, V, K) x b).1.2.2 := by
  unfold u_mark
  split
  · rename_i c
    split
    · refine ⟨hU, hV, fun m q hm hq => ?_⟩
      have hq : va_up K x.toNatClampNeg (some (U.1, V)) m = some q := hq
      rw [va_up] at hq
      by_cases hk : m = x.toNatClampNeg
      · rw [if_pos hk] at hq; cases hq; exact ⟨hU.1, hV⟩
      · rw [if_neg hk] at hq; exact hK m q hm hq
    · show hs_Uw N (match K x.toNatClampNeg with | none => ((U, V, K), (0 : Int32)) | some q => (((q.1, 0, U.2.2), q.2, K), 1)).1.1 ∧ hs_Vw N.1 (match K x.toNatClampNeg with | none => ((U, V, K), (0 : Int32)) | some q => (((q.1, 0, U.2.2), q.2, K), 1)).1.2.1 ∧ hs_Kw N (match K x.toNatClampNeg with | none => ((U, V, K), (0 : Int32)) | some q => (((q.1, 0, U.2.2), q.2, K), 1)).1.2.2
      rcases (show K x.toNatClampNeg = none ∨ ∃ q, K x.toNatClampNeg = some q by cases K x.toNatClampNeg with | none => exact Or.inl rfl | some q => exact Or.inr ⟨q, rfl⟩) with e | ⟨q, e⟩
      · rw [e]; exact ⟨hU, hV, hK⟩
      · rw [e]
        have h4 : x.toNatClampNeg < 4 := (in_lt c).1
        have k := hK _ q h4 e
        exact ⟨⟨k.1, fun j hj => absurd hj (Nat.not_lt_zero _)⟩, k.2, hK⟩
  · exact ⟨hU, hV, hK⟩
end HNworldd
