section HNjudged
variable {I I' : Nat → Nat → Int32} {J J' : Nat → Nat → Int64} {R : Nat → Nat → Option Nat} {t : Nat} {N : sp_N} {Q Q' S : sp_Q} {U : sp_U} {V : sp_V}
/-! the lines of a rest -/
abbrev sp_L : Type := Nat × (Nat → Nat × Nat × Nat)
def hs_Lr (R : Nat → Nat → Option Nat) (l : Nat) : Prop := (l = 36 ∨ l = 40) ∧ hn_kind l = (0, 4) ∧ hn_kind (l + 1) = (7, 40) ∧ hn_kind (l + 2) = (1, 40) ∧ hn_kind (l + 3) = (1, 40) ∧ R l 0 = some (l + 1) ∧ R l 1 = some (l + 2) ∧ R l 2 = some (l + 3)
theorem hs_Lr_of {l : Nat} (hR : hs_refs R) (hl : l = 36 ∨ l = 40) : hs_Lr R l := by
  rcases hl with rfl | rfl
  · exact ⟨Or.inl rfl, rfl, rfl, rfl, rfl, hR (36, 0, 37) (by decide +kernel), hR (36, 1, 38) (by decide +kernel), hR (36, 2, 39) (by decide +kernel)⟩
  · exact ⟨Or.inr rfl, rfl, rfl, rfl, rfl, hR (40, 0, 41) (by decide +kernel), hR (40, 1, 42) (by decide +kernel), hR (40, 2, 43) (by decide +kernel)⟩
abbrev ln_1 (a : Nat) : Prop := a = 1 ∨ a = 3 ∨ a = 4
def hs_Lx (I : Nat → Nat → Int32) (R : Nat → Nat → Option Nat) (l : Nat) (L : sp_L) : Prop := I l 3 = nI L.1 ∧ L.1 ≤ 40 ∧ ∀ i, i < L.1 → R (l + 1) i = some (5010 + (L.2 i).1) ∧ (¬ (L.2 i).1 = 0 → I (l + 2) i = nI (L.2 i).2.1) ∧ (ln_1 (L.2 i).1 → I (l + 3) i = nI (L.2 i).2.2)
def hs_Lm (I : Nat → Nat → Int32) (L : sp_L) : Prop := I 201 0 = nI L.1 ∧ ∀ i, i < L.1 → I 201 (1 + 3 * i) = nI (L.2 i).1 ∧ (¬ (L.2 i).1 = 0 → I 201 (2 + 3 * i) = nI (L.2 i).2.1) ∧ (ln_1 (L.2 i).1 → I 201 (3 + 3 * i) = nI (L.2 i).2.2)
def hs_Lw (n np : Nat) (L : sp_L) : Prop := ∀ i, i < L.1 → (L.2 i).1 ≤ 4 ∧ ((L.2 i).1 = 1 ∨ (L.2 i).1 = 2 ∨ (L.2 i).1 = 3 → (L.2 i).2.1 < np) ∧ ((L.2 i).1 = 4 → (L.2 i).2.1 < n ∧ ¬ (L.2 i).2.1 = (L.2 i).2.2) ∧ (ln_1 (L.2 i).1 → (L.2 i).2.2 < n)
/-! one line -/
abbrev sp_cn (q : sp_Q) (p k : Nat) : Prop := sp_awk (qW q) (qP q) p ∧ sp_bit (qS q (qP q p).toNatClampNeg) k
def jd_step (N : sp_N) (ln : Nat × Nat × Nat) (q : sp_Q) : sp_Q × Nat :=
  if ln.1 = 0 then ((sp_hr N 0 (-1) q).1, if (sp_hr N 0 (-1) q).2 = 0 then 0 else 2)
  else if ln.1 = 4 then (sp_tie q ln.2.1 ln.2.2, 0)
  else if ln.1 = 1 then (if sp_cn q ln.2.1 ln.2.2 then (sp_sh N 0 q ln.2.1 ln.2.2, if sp_shf N 0 q ln.2.1 ln.2.2 then 2 else 0) else (q, 1))
  else if ln.1 = 2 then (if qP q ln.2.1 = -1 then (q, 1) else (sp_put q ln.2.1 (-1), 0))
  else (if qP q ln.2.1 = -1 then (sp_put q ln.2.1 (nI ln.2.2), 0) else (q, 1))
theorem jd_step_w {q : sp_Q} {L : sp_L} {i : Nat} (hL : hs_Lw N.1 N.2.1 L) (hi : i < L.1) (h8 : N.1 ≤ 8) (h4 : N.2.1 ≤ 4) (hw : hs_Qw N.1 N.2.1 q) : hs_Qw N.1 N.2.1 (jd_step N (L.2 i) q).1 := by
  obtain ⟨l1, l2, l3, l4⟩ := hL i hi
  generalize L.2 i = ln at l1 l2 l3 l4 ⊢
  obtain ⟨a, b, c⟩ := ln
  simp only at l1 l2 l3 l4
  unfold jd_step
  simp only
  rcases (show a = 0 ∨ a = 1 ∨ a = 2 ∨ a = 3 ∨ a = 4 by omega) with rfl | rfl | rfl | rfl | rfl
  · rw [if_pos rfl]; exact sp_hr_w h4 hw
  · rw [if_neg (by omega), if_neg (by omega), if_pos rfl]
    split
    · exact sp_sh_w hw (l2 (by omega)) (l4 (by unfold ln_1; omega)) h4
    · exact hw
  · rw [if_neg (by omega), if_neg (by omega), if_neg (by omega), if_pos rfl]
    split
    · exact hw
    · exact sp_put_w hw (l2 (by omega)) h4 (Or.inl rfl)
  · rw [if_neg (by omega), if_neg (by omega), if_neg (by omega), if_neg (by omega)]
    split
    · exact sp_put_w hw (l2 (by omega)) h4 (Or.inr ⟨c, l4 (by unfold ln_1; omega), rfl⟩)
    · exact hw
  · rw [if_neg (by omega), if_pos rfl]
    exact sp_tie_w hw (l3 rfl).1 (l4 (by unfold ln_1; omega)) h8 (l3 rfl).2
theorem hs_put_xa {a p n np : Nat} {v fm : Int32} (h : hs_Qx I a n np fm Q) (h0 : 0 < np) : hs_Qx (hn_u I (a + 3) p v) a n np fm (sp_put Q p v) := by
  obtain ⟨x1, x2, x3, x4, x5, x6, x7⟩ := h
  refine ⟨by rw [hn_u_ne _ _ _ (by omega)]; exact x1, by rw [hn_u_ne _ _ _ (by omega)]; exact x2, Or.inl (by rw [hn_u_eq, P3_p x3 h0]; rfl), by rw [hn_u_ne _ _ _ (by omega)]; exact x4, by rw [hn_u_ne _ _ _ (by omega)]; exact x5, by rw [hn_u_ne _ _ _ (by omega)]; exact x6, by rw [hn_u_ne _ _ _ (by omega)]; exact x7⟩
theorem hs_tie_xa {a k o n np : Nat} {v fm : Int32} (h : hs_Qx I a n np fm Q) (hv : v = qS Q k ^^^ ((1 : Int32) <<< (nI o &&& 31))) : hs_Qx (hn_u I (a + 1) k v) a n np fm (sp_tie Q k o) := by
  obtain ⟨x1, x2, x3, x4, x5, x6, x7⟩ := h
  subst hv
  refine ⟨by rw [hn_u_eq, x1]; rfl, by rw [hn_u_ne _ _ _ (by omega)]; exact x2, by rw [hn_u_ne _ _ _ (by omega)]; exact x3, by rw [hn_u_ne _ _ _ (by omega)]; exact x4, by rw [hn_u_ne _ _ _ (by omega)]; exact x5, by rw [hn_u_ne _ _ _ (by omega)]; exact x6, by rw [hn_u_ne _ _ _ (by omega)]; exact x7⟩
theorem hs_put_mb {b p : Nat} {v : Int32} (hp : p < 4) (h : hs_Qm I b Q) : hs_Qm (hn_u I 204 (b + 13 + p) v) b (sp_put Q p v) := by
  obtain ⟨⟨h0, h1, h2, h3, h4⟩, h5⟩ := h
  refine ⟨⟨h0, fun k hk => ?_, fun k hk => ?_, fun k hk => ?_, fun k hk => ?_⟩, ?_⟩
  · rw [hn_u_eq, va_up, if_neg (by omega)]; exact h1 k hk
  · rw [hn_u_eq, va_up, if_neg (by omega)]; exact h2 k hk
  · rw [hn_u_eq]
    show va_up (I 204) (b + 13 + p) v (b + 13 + k) = va_up (qP Q) p v k
    unfold va_up
    by_cases e : k = p
    · rw [if_pos (by omega), if_pos e]
    · rw [if_neg (by omega), if_neg e]; exact h3 k hk
  · rw [hn_u_eq, va_up, if_neg (by omega)]; exact h4 k hk
  · rw [hn_u_eq, va_up, if_neg (by omega)]; exact h5
theorem hs_tie_mb {b k o : Nat} {v : Int32} (hk : k < 8) (h : hs_Qm I b Q) (hv : v = qS Q k ^^^ ((1 : Int32) <<< (nI o &&& 31))) : hs_Qm (hn_u I 204 (b + 1 + k) v) b (sp_tie Q k o) := by
  obtain ⟨⟨h0, h1, h2, h3, h4⟩, h5⟩ := h
  refine ⟨⟨h0, fun q hq => ?_, fun q hq => ?_, fun q hq => ?_, fun q hq => ?_⟩, ?_⟩
  · rw [hn_u_eq]
    show va_up (I 204) (b + 1 + k) v (b + 1 + q) = va_up (qS Q) k _ q
    unfold va_up
    by_cases e : q = k
    · rw [if_pos (by omega), if_pos e]; exact hv
    · rw [if_neg (by omega), if_neg e]; exact h1 q hq
  · rw [hn_u_eq, va_up, if_neg (by omega)]; exact h2 q hq
  · rw [hn_u_eq, va_up, if_neg (by omega)]; exact h3 q hq
  · rw [hn_u_eq, va_up, if_neg (by omega)]; exact h4 q hq
  · rw [hn_u_eq, va_up, if_neg (by omega)]; exact h5
/-! the class's trial: a shift, a string, a place -/
theorem qx_tg {q : sp_Q} {p k : Nat} (hA : hs_A I R t N Q) (h : hs_xt t N I q 0 I') (hp : p < N.2.1) (hk : k < N.1) : hn_F 4 hm_State_go [.ref 49, .ref t, .int (nI p), .int (nI k)] (I', J, R) (fun r D' => (∃ I2, D' = (I2, J, R) ∧ hs_xt t N I (sp_sh N 0 q p k) 0 I2) ∧ r = some (.int (if sp_shf N 0 q p k then 1 else 0))) := by
  obtain ⟨hR, r2, ht, hN, hX, hw, hz, hAw⟩ := hA
  have n8 := hN.2.1
  have n4 := hN.2.2.1
  refine (qx_go (hs_St_of hR (by decide)) (hs_Net_of hR ht) (hs_Nx_fr h.1 ht hN) h.2.1 (show 0 < N.2.1 by omega) (show p < 4 by omega) (show k < 8 by omega)).mono (fun r D' g => ?_)
  obtain ⟨hf, g1, g2⟩ := g
  obtain ⟨I2, rfl, hI2⟩ := hf.out
  exact ⟨⟨I2, rfl, fun b hb => by rw [hI2 b (fun e => hb (by unfold hs_w at e; omega))]; exact h.1 b hb, g1, sp_sh_w h.2.2 hp hk n4⟩, g2⟩
theorem hs_xt_put {q : sp_Q} {p : Nat} {v : Int32} (h : hs_xt t N I q 0 I') (hp : p < N.2.1) (h4 : N.2.1 ≤ 4) (hv : v = -1 ∨ ∃ k, k < N.1 ∧ v = nI k) : hs_xt t N I (sp_put q p v) 0 (hn_u I' (49 + 3) p v) :=
  ⟨fun b hb => by rw [hn_u_ne _ _ _ (fun e => hb (Or.inl (by omega)))]; exact h.1 b hb, hs_put_xa h.2.1 (by omega), sp_put_w h.2.2 hp h4 hv⟩
theorem hs_xt_tie {q : sp_Q} {k o : Nat} {v : Int32} (h : hs_xt t N I q 0 I') (hk : k < N.1) (ho : o < N.1) (h8 : N.1 ≤ 8) (hne : ¬ k = o) (hv : v = qS q k ^^^ ((1 : Int32) <<< (nI o &&& 31))) : hs_xt t N I (sp_tie q k o) 0 (hn_u I' (49 + 1) k v) :=
  ⟨fun b hb => by rw [hn_u_ne _ _ _ (fun e => hb (Or.inl (by omega)))]; exact h.1 b hb, hs_tie_xa h.2.1 hv, sp_tie_w h.2.2 hk ho h8 hne⟩
theorem sp_pl8 {n p : Nat} {pl : Nat → Int32} (h : hs_pl n pl) (hn : n ≤ 8) (hp : p < 4) : pl p = -1 ∨ ∃ q, q < 8 ∧ pl p = nI q := by
  rcases h p hp with h | ⟨q, h1, h2⟩
  · exact Or.inl h
  · exact Or.inr ⟨q, by omega, h2⟩
theorem q_X_outcomeOf {q : sp_Q} {l i : Nat} {L : sp_L} (hA : hs_A I R t N Q) (hl : R 0 4 = some l) (hLr : hs_Lr R l) (hL : hs_Lx I R l L) (hLw : hs_Lw N.1 N.2.1 L) (hi : i < L.1) (h : hs_xt t N I q 0 I') : hn_F 6 hm_X_outcomeOf [.ref 0, .int (nI i)] (I', J, R) (fun r D' => (∃ I2, D' = (I2, J, R) ∧ hs_xt t N I (jd_step N (L.2 i) q).1 0 I2) ∧ r = some (.int (nI (jd_step N (L.2 i) q).2))) := by
  have hA0 := hA
  obtain ⟨hR, r2, ht, hN, hX, hw, hz, hAw⟩ := hA
  have hN0 := hN
  have hX0 := hX
  have hw0 := hw
  obtain ⟨n0, n8, n4, nk, nh, na, hc, ncd⟩ := hN
  obtain ⟨x1, x2, x3, x4, x5, x6, x7⟩ := hX
  obtain ⟨r6, r7, r8, r11, r12, r13, r14, r15, r16, r17, r18⟩ := hs_x0 hR
  have hSt := hs_St_of hR (show 44 ∈ hs_sc by decide)
  have hNt := hs_Net_of hR ht
  obtain ⟨_, sk0, sk1, sk2, sk3, sk4, g0, g1, g2, g3⟩ := id hSt
  obtain ⟨tt5, tn0, tn1, tn2, tn3, tn4, tn5, tn6, tn7, tn8, tn9, tn10, ts1, ts2, ts3, ts4, ts5, ts7, ts8, tl0, tl2, tl6, tl7⟩ := id hNt
  have hSt9 := hs_St_of hR (show 49 ∈ hs_sc by decide)
  obtain ⟨_, u0, u1, u2, u3, u4, y0, y1, y2, y3⟩ := id hSt9
  obtain ⟨hl36, lk0, lk1, lk2, lk3, lr0, lr1, lr2⟩ := hLr
  obtain ⟨hL1, hL40, hL2⟩ := hL
  obtain ⟨la, lf, ls⟩ := hL2 i hi
  obtain ⟨w1, w2, w3, w4⟩ := hLw i hi
  have eI : ∀ j, I' (l + j) = I (l + j) ∨ 3 < j := by
    intro j
    by_cases hj : 3 < j
    · exact Or.inr hj
    · exact Or.inl (h.1 _ (fun e => by unfold hs_xs at e; omega))
  have eI2 : I' (l + 2) = I (l + 2) := (eI 2).resolve_right (by omega)
  have eI3 : I' (l + 3) = I (l + 3) := (eI 3).resolve_right (by omega)
  have hpl9 : hs_pl N.1 (qP q) := h.2.2.1
  obtain ⟨z1, z2, z3, z4, z5, z6, z7⟩ := id h.2.1
  refine hn_F_of _ hk_X_outcomeOf rfl (Nat.le_of_ble_eq_true rfl) ?_
  generalize L.2 i = ln at la lf ls w1 w2 w3 w4 ⊢
  obtain ⟨a, f, s⟩ := ln
  simp only at la lf ls w1 w2 w3 w4
  rcases (show a = 0 ∨ a = 1 ∨ a = 2 ∨ a = 3 ∨ a = 4 by omega) with rfl | rfl | rfl | rfl | rfl
  · rw [show jd_step N (0, f, s) q = ((sp_hr N 0 (-1) q).1, if (sp_hr N 0 (-1) q).2 = 0 then 0 else 2) from if_pos rfl]
    refine b_aload_n rfl rfl ?_
    refine b_getR rfl (by first | rfl | assumption) rfl (by assumption) ?_
    refine b_getR rfl (by first | rfl | assumption) rfl (by assumption) ?_
    refine b_iload_n rfl rfl ?_
    refine b_aaload rfl (by first | assumption | rfl) (by decide) (by first | assumption | exact nI_toInt (by omega) | exact hi_l0 | exact hi_l1 | exact hi_l2 | exact hi_l3 | exact hi_l4 | exact hi_l5 | exact hi_l6) (by omega) (by assumption) ?_
    refine b_astore_n rfl (Nat.le_of_ble_eq_true rfl) ?_
    refine b_aload_n rfl rfl ?_
    refine b_getR rfl (by first | rfl | assumption) rfl (by assumption) ?_
    refine b_getR rfl (by first | rfl | assumption) rfl (by assumption) ?_
    refine b_iload_n rfl rfl ?_
    refine b_iaload rfl (by first | rfl | assumption) (by first | assumption | exact nI_toInt (by omega) | exact hi_l0 | exact hi_l1 | exact hi_l2 | exact hi_l3 | exact hi_l4 | exact hi_l5 | exact hi_l6) (by omega) ?_
    refine b_istore_n rfl (Nat.le_of_ble_eq_true rfl) ?_
    refine b_aload_n rfl rfl ?_
    refine b_getR rfl (by first | rfl | assumption) rfl (by assumption) ?_
    refine b_getR rfl (by first | rfl | assumption) rfl (by assumption) ?_
    refine b_iload_n rfl rfl ?_
    refine b_iaload rfl (by first | rfl | assumption) (by first | assumption | exact nI_toInt (by omega) | exact hi_l0 | exact hi_l1 | exact hi_l2 | exact hi_l3 | exact hi_l4 | exact hi_l5 | exact hi_l6) (by omega) ?_
    refine b_istore rfl (Nat.le_of_ble_eq_true rfl) ?_
    refine b_aload_n rfl rfl ?_
    refine b_getsW rfl ?_
    refine b_acmp_ne rfl (by omega) (by omega) (fun c_35 => ?_) (fun c_35 => ?_)
    · exact absurd rfl c_35
    · refine b_aload_n rfl rfl ?_
      refine b_getR rfl (by first | rfl | assumption) rfl (by assumption) ?_
      refine b_aload_n rfl rfl ?_
      refine b_getR rfl (by first | rfl | assumption) rfl (by assumption) ?_
      refine b_iconst rfl ?_
      refine b_callV rfl rfl hk_State_passHour rfl rfl rfl (by first | rfl | assumption) rfl (Nat.le_of_ble_eq_true rfl) (qx_th (odd := -1) hA0 h) (Nat.le_of_ble_eq_true rfl) (fun r_47 D_47 q_47 => ?_)
      obtain ⟨⟨I2, rfl, h2⟩, rfl⟩ := q_47
      refine b_if_eq rfl (fun c_50 => ?_) (fun c_50 => ?_)
      · refine b_iconst rfl ?_
        exact b_ireturn rfl trivial ((by first | (refine ⟨⟨I2, rfl, h2⟩, ?_⟩; rw [if_pos c_50]; rfl) | (refine ⟨⟨I2, rfl, h2⟩, ?_⟩; rw [if_neg c_50]; rfl)))
      · refine b_iconst rfl ?_
        refine b_goto rfl ?_
        exact b_ireturn rfl trivial ((by first | (refine ⟨⟨I2, rfl, h2⟩, ?_⟩; rw [if_pos c_50]; rfl) | (refine ⟨⟨I2, rfl, h2⟩, ?_⟩; rw [if_neg c_50]; rfl)))
  · have hp := w2 (by omega)
    have hk := w4 (by unfold ln_1; omega)
    have lf := lf (by omega)
    have ls := ls (by unfold ln_1; omega)
    rw [show jd_step N (1, f, s) q = (if sp_cn q f s then (sp_sh N 0 q f s, if sp_shf N 0 q f s then 2 else 0) else (q, 1)) by unfold jd_step; simp only; rw [if_neg (by omega), if_neg (by omega), if_pos trivial]]
    have hpl8 : I' (49 + 3) f = -1 ∨ ∃ q, q < 8 ∧ I' (49 + 3) f = nI q := by rw [P3_p z3 (by omega)]; exact sp_pl8 hpl9 n8 (by omega)
    by_cases hc : sp_cn q f s
    · rw [if_pos hc]
      by_cases hg : sp_shf N 0 q f s
      · rw [if_pos hg]
        refine b_aload_n rfl rfl ?_
        refine b_getR rfl (by first | rfl | assumption) rfl (by assumption) ?_
        refine b_getR rfl (by first | rfl | assumption) rfl (by assumption) ?_
        refine b_iload_n rfl rfl ?_
        refine b_aaload rfl (by first | assumption | rfl) (by decide) (by first | assumption | exact nI_toInt (by omega) | exact hi_l0 | exact hi_l1 | exact hi_l2 | exact hi_l3 | exact hi_l4 | exact hi_l5 | exact hi_l6) (by omega) (by assumption) ?_
        refine b_astore_n rfl (Nat.le_of_ble_eq_true rfl) ?_
        refine b_aload_n rfl rfl ?_
        refine b_getR rfl (by first | rfl | assumption) rfl (by assumption) ?_
        refine b_getR rfl (by first | rfl | assumption) rfl (by assumption) ?_
        refine b_iload_n rfl rfl ?_
        refine b_iaload rfl (by first | rfl | assumption) (by first | assumption | exact nI_toInt (by omega) | exact hi_l0 | exact hi_l1 | exact hi_l2 | exact hi_l3 | exact hi_l4 | exact hi_l5 | exact hi_l6) (by omega) ?_
        rw [eI2, lf]
        refine b_istore_n rfl (Nat.le_of_ble_eq_true rfl) ?_
        refine b_aload_n rfl rfl ?_
        refine b_getR rfl (by first | rfl | assumption) rfl (by assumption) ?_
        refine b_getR rfl (by first | rfl | assumption) rfl (by assumption) ?_
        refine b_iload_n rfl rfl ?_
        refine b_iaload rfl (by first | rfl | assumption) (by first | assumption | exact nI_toInt (by omega) | exact hi_l0 | exact hi_l1 | exact hi_l2 | exact hi_l3 | exact hi_l4 | exact hi_l5 | exact hi_l6) (by omega) ?_
        rw [eI3, ls]
        refine b_istore rfl (Nat.le_of_ble_eq_true rfl) ?_
        refine b_aload_n rfl rfl ?_
        refine b_getsW rfl ?_
        refine b_acmp_ne rfl (by omega) (by omega) (fun c_35 => ?_) (fun c_35 => ?_)
        · refine b_aload_n rfl rfl ?_
          refine b_getsW rfl ?_
          refine b_acmp_ne rfl (by omega) (by omega) (fun c_63 => ?_) (fun c_63 => ?_)
          · refine b_aload_n rfl rfl ?_
            refine b_getsW rfl ?_
            refine b_acmp_ne rfl (by omega) (by omega) (fun c_88 => ?_) (fun c_88 => ?_)
            · exact absurd rfl c_88
            · refine b_aload_n rfl rfl ?_
              refine b_getR rfl (by first | rfl | assumption) rfl (by assumption) ?_
              refine b_iload_n rfl rfl ?_
              refine b_iload rfl rfl ?_
              refine b_callV rfl rfl hk_State_canGo rfl rfl rfl (by first | rfl | assumption) rfl (Nat.le_of_ble_eq_true rfl) (q_State_canGo hSt9 (show f < 4 by omega) hpl8) (Nat.le_of_ble_eq_true rfl) (fun r_98 D_98 q_98 => ?_)
              obtain ⟨rfl, hq⟩ := q_98
              rw [z1, z2, P3_p z3 (by omega), if_pos hc] at hq
              subst hq
              refine b_if_ne rfl (fun c_101 => ?_) (fun c_101 => ?_)
              · refine b_aload_n rfl rfl ?_
                refine b_getR rfl (by first | rfl | assumption) rfl (by assumption) ?_
                refine b_aload_n rfl rfl ?_
                refine b_getR rfl (by first | rfl | assumption) rfl (by assumption) ?_
                refine b_iload_n rfl rfl ?_
                refine b_iload rfl rfl ?_
                refine b_callV rfl rfl hk_State_go rfl rfl rfl (by first | rfl | assumption) rfl (Nat.le_of_ble_eq_true rfl) (qx_tg hA0 h hp hk) (Nat.le_of_ble_eq_true rfl) (fun r_117 D_117 q_117 => ?_)
                obtain ⟨⟨I2, rfl, h2⟩, hq⟩ := q_117
                rw [if_pos hg] at hq
                subst hq
                refine b_if_eq rfl (fun c_120 => ?_) (fun c_120 => ?_)
                · exact absurd c_120 (by decide)
                · refine b_iconst rfl ?_
                  refine b_goto rfl ?_
                  exact b_ireturn rfl trivial (⟨⟨I2, rfl, h2⟩, rfl⟩)
              · exact absurd c_101 (by decide)
          · exact absurd c_63 (by decide)
        · exact absurd c_35 (by decide)
      · rw [if_neg hg]
        refine b_aload_n rfl rfl ?_
        refine b_getR rfl (by first | rfl | assumption) rfl (by assumption) ?_
        refine b_getR rfl (by first | rfl | assumption) rfl (by assumption) ?_
        refine b_iload_n rfl rfl ?_
        refine b_aaload rfl (by first | assumption | rfl) (by decide) (by first | assumption | exact nI_toInt (by omega) | exact hi_l0 | exact hi_l1 | exact hi_l2 | exact hi_l3 | exact hi_l4 | exact hi_l5 | exact hi_l6) (by omega) (by assumption) ?_
        refine b_astore_n rfl (Nat.le_of_ble_eq_true rfl) ?_
        refine b_aload_n rfl rfl ?_
        refine b_getR rfl (by first | rfl | assumption) rfl (by assumption) ?_
        refine b_getR rfl (by first | rfl | assumption) rfl (by assumption) ?_
        refine b_iload_n rfl rfl ?_
        refine b_iaload rfl (by first | rfl | assumption) (by first | assumption | exact nI_toInt (by omega) | exact hi_l0 | exact hi_l1 | exact hi_l2 | exact hi_l3 | exact hi_l4 | exact hi_l5 | exact hi_l6) (by omega) ?_
        rw [eI2, lf]
        refine b_istore_n rfl (Nat.le_of_ble_eq_true rfl) ?_
        refine b_aload_n rfl rfl ?_
        refine b_getR rfl (by first | rfl | assumption) rfl (by assumption) ?_
        refine b_getR rfl (by first | rfl | assumption) rfl (by assumption) ?_
        refine b_iload_n rfl rfl ?_
        refine b_iaload rfl (by first | rfl | assumption) (by first | assumption | exact nI_toInt (by omega) | exact hi_l0 | exact hi_l1 | exact hi_l2 | exact hi_l3 | exact hi_l4 | exact hi_l5 | exact hi_l6) (by omega) ?_
        rw [eI3, ls]
        refine b_istore rfl (Nat.le_of_ble_eq_true rfl) ?_
        refine b_aload_n rfl rfl ?_
        refine b_getsW rfl ?_
        refine b_acmp_ne rfl (by omega) (by omega) (fun c_35 => ?_) (fun c_35 => ?_)
        · refine b_aload_n rfl rfl ?_
          refine b_getsW rfl ?_
          refine b_acmp_ne rfl (by omega) (by omega) (fun c_63 => ?_) (fun c_63 => ?_)
          · refine b_aload_n rfl rfl ?_
            refine b_getsW rfl ?_
            refine b_acmp_ne rfl (by omega) (by omega) (fun c_88 => ?_) (fun c_88 => ?_)
            · exact absurd rfl c_88
            · refine b_aload_n rfl rfl ?_
              refine b_getR rfl (by first | rfl | assumption) rfl (by assumption) ?_
              refine b_iload_n rfl rfl ?_
              refine b_iload rfl rfl ?_
              refine b_callV rfl rfl hk_State_canGo rfl rfl rfl (by first | rfl | assumption) rfl (Nat.le_of_ble_eq_true rfl) (q_State_canGo hSt9 (show f < 4 by omega) hpl8) (Nat.le_of_ble_eq_true rfl) (fun r_98 D_98 q_98 => ?_)
              obtain ⟨rfl, hq⟩ := q_98
              rw [z1, z2, P3_p z3 (by omega), if_pos hc] at hq
              subst hq
              refine b_if_ne rfl (fun c_101 => ?_) (fun c_101 => ?_)
              · refine b_aload_n rfl rfl ?_
                refine b_getR rfl (by first | rfl | assumption) rfl (by assumption) ?_
                refine b_aload_n rfl rfl ?_
                refine b_getR rfl (by first | rfl | assumption) rfl (by assumption) ?_
                refine b_iload_n rfl rfl ?_
                refine b_iload rfl rfl ?_
                refine b_callV rfl rfl hk_State_go rfl rfl rfl (by first | rfl | assumption) rfl (Nat.le_of_ble_eq_true rfl) (qx_tg hA0 h hp hk) (Nat.le_of_ble_eq_true rfl) (fun r_117 D_117 q_117 => ?_)
                obtain ⟨⟨I2, rfl, h2⟩, hq⟩ := q_117
                rw [if_neg hg] at hq
                subst hq
                refine b_if_eq rfl (fun c_120 => ?_) (fun c_120 => ?_)
                · refine b_iconst rfl ?_
                  exact b_ireturn rfl trivial (⟨⟨I2, rfl, h2⟩, rfl⟩)
                · exact absurd rfl c_120
              · exact absurd c_101 (by decide)
          · exact absurd c_63 (by decide)
        · exact absurd c_35 (by decide)
    · rw [if_neg hc]
      refine b_aload_n rfl rfl ?_
      refine b_getR rfl (by first | rfl | assumption) rfl (by assumption) ?_
      refine b_getR rfl (by first | rfl | assumption) rfl (by assumption) ?_
      refine b_iload_n rfl rfl ?_
      refine b_aaload rfl (by first | assumption | rfl) (by decide) (by first | assumption | exact nI_toInt (by omega) | exact hi_l0 | exact hi_l1 | exact hi_l2 | exact hi_l3 | exact hi_l4 | exact hi_l5 | exact hi_l6) (by omega) (by assumption) ?_
      refine b_astore_n rfl (Nat.le_of_ble_eq_true rfl) ?_
      refine b_aload_n rfl rfl ?_
      refine b_getR rfl (by first | rfl | assumption) rfl (by assumption) ?_
      refine b_getR rfl (by first | rfl | assumption) rfl (by assumption) ?_
      refine b_iload_n rfl rfl ?_
      refine b_iaload rfl (by first | rfl | assumption) (by first | assumption | exact nI_toInt (by omega) | exact hi_l0 | exact hi_l1 | exact hi_l2 | exact hi_l3 | exact hi_l4 | exact hi_l5 | exact hi_l6) (by omega) ?_
      rw [eI2, lf]
      refine b_istore_n rfl (Nat.le_of_ble_eq_true rfl) ?_
      refine b_aload_n rfl rfl ?_
      refine b_getR rfl (by first | rfl | assumption) rfl (by assumption) ?_
      refine b_getR rfl (by first | rfl | assumption) rfl (by assumption) ?_
      refine b_iload_n rfl rfl ?_
      refine b_iaload rfl (by first | rfl | assumption) (by first | assumption | exact nI_toInt (by omega) | exact hi_l0 | exact hi_l1 | exact hi_l2 | exact hi_l3 | exact hi_l4 | exact hi_l5 | exact hi_l6) (by omega) ?_
      rw [eI3, ls]
      refine b_istore rfl (Nat.le_of_ble_eq_true rfl) ?_
      refine b_aload_n rfl rfl ?_
      refine b_getsW rfl ?_
      refine b_acmp_ne rfl (by omega) (by omega) (fun c_35 => ?_) (fun c_35 => ?_)
      · refine b_aload_n rfl rfl ?_
        refine b_getsW rfl ?_
        refine b_acmp_ne rfl (by omega) (by omega) (fun c_63 => ?_) (fun c_63 => ?_)
        · refine b_aload_n rfl rfl ?_
          refine b_getsW rfl ?_
          refine b_acmp_ne rfl (by omega) (by omega) (fun c_88 => ?_) (fun c_88 => ?_)
          · exact absurd rfl c_88
          · refine b_aload_n rfl rfl ?_
            refine b_getR rfl (by first | rfl | assumption) rfl (by assumption) ?_
            refine b_iload_n rfl rfl ?_
            refine b_iload rfl rfl ?_
            refine b_callV rfl rfl hk_State_canGo rfl rfl rfl (by first | rfl | assumption) rfl (Nat.le_of_ble_eq_true rfl) (q_State_canGo hSt9 (show f < 4 by omega) hpl8) (Nat.le_of_ble_eq_true rfl) (fun r_98 D_98 q_98 => ?_)
            obtain ⟨rfl, hq⟩ := q_98
            rw [z1, z2, P3_p z3 (by omega), if_neg hc] at hq
            subst hq
            refine b_if_ne rfl (fun c_101 => ?_) (fun c_101 => ?_)
            · exact absurd rfl c_101
            · refine b_iconst rfl ?_
              exact b_ireturn rfl trivial (⟨⟨I', rfl, h⟩, rfl⟩)
        · exact absurd c_63 (by decide)
      · exact absurd c_35 (by decide)
  · have hp := w2 (by omega)
    have lf := lf (by omega)
    rw [show jd_step N (2, f, s) q = (if qP q f = -1 then (q, 1) else (sp_put q f (-1), 0)) by unfold jd_step; simp only; rw [if_neg (by omega), if_neg (by omega), if_neg (by omega), if_pos trivial]]
    by_cases hc : qP q f = -1
    · rw [if_pos hc]
      refine b_aload_n rfl rfl ?_
      refine b_getR rfl (by first | rfl | assumption) rfl (by assumption) ?_
      refine b_getR rfl (by first | rfl | assumption) rfl (by assumption) ?_
      refine b_iload_n rfl rfl ?_
      refine b_aaload rfl (by first | assumption | rfl) (by decide) (by first | assumption | exact nI_toInt (by omega) | exact hi_l0 | exact hi_l1 | exact hi_l2 | exact hi_l3 | exact hi_l4 | exact hi_l5 | exact hi_l6) (by omega) (by assumption) ?_
      refine b_astore_n rfl (Nat.le_of_ble_eq_true rfl) ?_
      refine b_aload_n rfl rfl ?_
      refine b_getR rfl (by first | rfl | assumption) rfl (by assumption) ?_
      refine b_getR rfl (by first | rfl | assumption) rfl (by assumption) ?_
      refine b_iload_n rfl rfl ?_
      refine b_iaload rfl (by first | rfl | assumption) (by first | assumption | exact nI_toInt (by omega) | exact hi_l0 | exact hi_l1 | exact hi_l2 | exact hi_l3 | exact hi_l4 | exact hi_l5 | exact hi_l6) (by omega) ?_
      rw [eI2, lf]
      refine b_istore_n rfl (Nat.le_of_ble_eq_true rfl) ?_
      refine b_aload_n rfl rfl ?_
      refine b_getR rfl (by first | rfl | assumption) rfl (by assumption) ?_
      refine b_getR rfl (by first | rfl | assumption) rfl (by assumption) ?_
      refine b_iload_n rfl rfl ?_
      refine b_iaload rfl (by first | rfl | assumption) (by first | assumption | exact nI_toInt (by omega) | exact hi_l0 | exact hi_l1 | exact hi_l2 | exact hi_l3 | exact hi_l4 | exact hi_l5 | exact hi_l6) (by omega) ?_
      refine b_istore rfl (Nat.le_of_ble_eq_true rfl) ?_
      refine b_aload_n rfl rfl ?_
      refine b_getsW rfl ?_
      refine b_acmp_ne rfl (by omega) (by omega) (fun c_35 => ?_) (fun c_35 => ?_)
      · refine b_aload_n rfl rfl ?_
        refine b_getsW rfl ?_
        refine b_acmp_ne rfl (by omega) (by omega) (fun c_63 => ?_) (fun c_63 => ?_)
        · refine b_aload_n rfl rfl ?_
          refine b_getsW rfl ?_
          refine b_acmp_ne rfl (by omega) (by omega) (fun c_88 => ?_) (fun c_88 => ?_)
          · refine b_aload_n rfl rfl ?_
            refine b_getR rfl (by first | rfl | assumption) rfl (by assumption) ?_
            refine b_iload_n rfl rfl ?_
            refine b_callV rfl rfl hk_State_isLying rfl rfl rfl (by first | rfl | assumption) rfl (Nat.le_of_ble_eq_true rfl) (q_State_isLying hSt9 (show f < 4 by omega)) (Nat.le_of_ble_eq_true rfl) (fun r_134 D_134 q_134 => ?_)
            obtain ⟨rfl, hq⟩ := q_134
            rw [P3_p z3 (by omega), if_pos hc] at hq
            subst hq
            refine b_aload_n rfl rfl ?_
            refine b_getsW rfl ?_
            refine b_acmp_ne rfl (by omega) (by omega) (fun c_141 => ?_) (fun c_141 => ?_)
            · exact absurd rfl c_141
            · refine b_iconst rfl ?_
              refine b_goto rfl ?_
              refine b_icmp_eq rfl (fun c_149 => ?_) (fun c_149 => ?_)
              · exact absurd c_149 (by decide)
              · refine b_iconst rfl ?_
                exact b_ireturn rfl trivial (⟨⟨I', rfl, h⟩, rfl⟩)
          · exact absurd c_88 (by decide)
        · exact absurd c_63 (by decide)
      · exact absurd c_35 (by decide)
    · rw [if_neg hc]
      refine b_aload_n rfl rfl ?_
      refine b_getR rfl (by first | rfl | assumption) rfl (by assumption) ?_
      refine b_getR rfl (by first | rfl | assumption) rfl (by assumption) ?_
      refine b_iload_n rfl rfl ?_
      refine b_aaload rfl (by first | assumption | rfl) (by decide) (by first | assumption | exact nI_toInt (by omega) | exact hi_l0 | exact hi_l1 | exact hi_l2 | exact hi_l3 | exact hi_l4 | exact hi_l5 | exact hi_l6) (by omega) (by assumption) ?_
      refine b_astore_n rfl (Nat.le_of_ble_eq_true rfl) ?_
      refine b_aload_n rfl rfl ?_
      refine b_getR rfl (by first | rfl | assumption) rfl (by assumption) ?_
      refine b_getR rfl (by first | rfl | assumption) rfl (by assumption) ?_
      refine b_iload_n rfl rfl ?_
      refine b_iaload rfl (by first | rfl | assumption) (by first | assumption | exact nI_toInt (by omega) | exact hi_l0 | exact hi_l1 | exact hi_l2 | exact hi_l3 | exact hi_l4 | exact hi_l5 | exact hi_l6) (by omega) ?_
      rw [eI2, lf]
      refine b_istore_n rfl (Nat.le_of_ble_eq_true rfl) ?_
      refine b_aload_n rfl rfl ?_
      refine b_getR rfl (by first | rfl | assumption) rfl (by assumption) ?_
      refine b_getR rfl (by first | rfl | assumption) rfl (by assumption) ?_
      refine b_iload_n rfl rfl ?_
      refine b_iaload rfl (by first | rfl | assumption) (by first | assumption | exact nI_toInt (by omega) | exact hi_l0 | exact hi_l1 | exact hi_l2 | exact hi_l3 | exact hi_l4 | exact hi_l5 | exact hi_l6) (by omega) ?_
      refine b_istore rfl (Nat.le_of_ble_eq_true rfl) ?_
      refine b_aload_n rfl rfl ?_
      refine b_getsW rfl ?_
      refine b_acmp_ne rfl (by omega) (by omega) (fun c_35 => ?_) (fun c_35 => ?_)
      · refine b_aload_n rfl rfl ?_
        refine b_getsW rfl ?_
        refine b_acmp_ne rfl (by omega) (by omega) (fun c_63 => ?_) (fun c_63 => ?_)
        · refine b_aload_n rfl rfl ?_
          refine b_getsW rfl ?_
          refine b_acmp_ne rfl (by omega) (by omega) (fun c_88 => ?_) (fun c_88 => ?_)
          · refine b_aload_n rfl rfl ?_
            refine b_getR rfl (by first | rfl | assumption) rfl (by assumption) ?_
            refine b_iload_n rfl rfl ?_
            refine b_callV rfl rfl hk_State_isLying rfl rfl rfl (by first | rfl | assumption) rfl (Nat.le_of_ble_eq_true rfl) (q_State_isLying hSt9 (show f < 4 by omega)) (Nat.le_of_ble_eq_true rfl) (fun r_134 D_134 q_134 => ?_)
            obtain ⟨rfl, hq⟩ := q_134
            rw [P3_p z3 (by omega), if_neg hc] at hq
            subst hq
            refine b_aload_n rfl rfl ?_
            refine b_getsW rfl ?_
            refine b_acmp_ne rfl (by omega) (by omega) (fun c_141 => ?_) (fun c_141 => ?_)
            · exact absurd rfl c_141
            · refine b_iconst rfl ?_
              refine b_goto rfl ?_
              refine b_icmp_eq rfl (fun c_149 => ?_) (fun c_149 => ?_)
              · refine b_aload_n rfl rfl ?_
                refine b_getR rfl (by first | rfl | assumption) rfl (by assumption) ?_
                refine b_getR rfl (by first | rfl | assumption) rfl (by assumption) ?_
                refine b_iload_n rfl rfl ?_
                refine b_aload_n rfl rfl ?_
                refine b_getsW rfl ?_
                refine b_acmp_ne rfl (by omega) (by omega) (fun c_166 => ?_) (fun c_166 => ?_)
                · exact absurd rfl c_166
                · refine b_iconst rfl ?_
                  refine b_goto rfl ?_
                  refine b_iastore rfl (by first | rfl | assumption) (by first | assumption | exact nI_toInt (by omega) | exact hi_l0 | exact hi_l1 | exact hi_l2 | exact hi_l3 | exact hi_l4 | exact hi_l5 | exact hi_l6) (by omega) ?_
                  refine b_iconst rfl ?_
                  exact b_ireturn rfl trivial (⟨⟨_, rfl, hs_xt_put h hp n4 (Or.inl rfl)⟩, rfl⟩)
              · exact absurd rfl c_149
          · exact absurd c_88 (by decide)
        · exact absurd c_63 (by decide)
      · exact absurd c_35 (by decide)
  · have hp := w2 (by omega)
    have hk := w4 (by unfold ln_1; omega)
    have lf := lf (by omega)
    have ls := ls (by unfold ln_1; omega)
    rw [show jd_step N (3, f, s) q = (if qP q f = -1 then (sp_put q f (nI s), 0) else (q, 1)) by unfold jd_step; simp only; rw [if_neg (by omega), if_neg (by omega), if_neg (by omega), if_neg (by omega)]]
    by_cases hc : qP q f = -1
    · rw [if_pos hc]
      refine b_aload_n rfl rfl ?_
      refine b_getR rfl (by first | rfl | assumption) rfl (by assumption) ?_
      refine b_getR rfl (by first | rfl | assumption) rfl (by assumption) ?_
      refine b_iload_n rfl rfl ?_
      refine b_aaload rfl (by first | assumption | rfl) (by decide) (by first | assumption | exact nI_toInt (by omega) | exact hi_l0 | exact hi_l1 | exact hi_l2 | exact hi_l3 | exact hi_l4 | exact hi_l5 | exact hi_l6) (by omega) (by assumption) ?_
      refine b_astore_n rfl (Nat.le_of_ble_eq_true rfl) ?_
      refine b_aload_n rfl rfl ?_
      refine b_getR rfl (by first | rfl | assumption) rfl (by assumption) ?_
      refine b_getR rfl (by first | rfl | assumption) rfl (by assumption) ?_
      refine b_iload_n rfl rfl ?_
      refine b_iaload rfl (by first | rfl | assumption) (by first | assumption | exact nI_toInt (by omega) | exact hi_l0 | exact hi_l1 | exact hi_l2 | exact hi_l3 | exact hi_l4 | exact hi_l5 | exact hi_l6) (by omega) ?_
      rw [eI2, lf]
      refine b_istore_n rfl (Nat.le_of_ble_eq_true rfl) ?_
      refine b_aload_n rfl rfl ?_
      refine b_getR rfl (by first | rfl | assumption) rfl (by assumption) ?_
      refine b_getR rfl (by first | rfl | assumption) rfl (by assumption) ?_
      refine b_iload_n rfl rfl ?_
      refine b_iaload rfl (by first | rfl | assumption) (by first | assumption | exact nI_toInt (by omega) | exact hi_l0 | exact hi_l1 | exact hi_l2 | exact hi_l3 | exact hi_l4 | exact hi_l5 | exact hi_l6) (by omega) ?_
      rw [eI3, ls]
      refine b_istore rfl (Nat.le_of_ble_eq_true rfl) ?_
      refine b_aload_n rfl rfl ?_
      refine b_getsW rfl ?_
      refine b_acmp_ne rfl (by omega) (by omega) (fun c_35 => ?_) (fun c_35 => ?_)
      · refine b_aload_n rfl rfl ?_
        refine b_getsW rfl ?_
        refine b_acmp_ne rfl (by omega) (by omega) (fun c_63 => ?_) (fun c_63 => ?_)
        · refine b_aload_n rfl rfl ?_
          refine b_getsW rfl ?_
          refine b_acmp_ne rfl (by omega) (by omega) (fun c_88 => ?_) (fun c_88 => ?_)
          · refine b_aload_n rfl rfl ?_
            refine b_getR rfl (by first | rfl | assumption) rfl (by assumption) ?_
            refine b_iload_n rfl rfl ?_
            refine b_callV rfl rfl hk_State_isLying rfl rfl rfl (by first | rfl | assumption) rfl (Nat.le_of_ble_eq_true rfl) (q_State_isLying hSt9 (show f < 4 by omega)) (Nat.le_of_ble_eq_true rfl) (fun r_134 D_134 q_134 => ?_)
            obtain ⟨rfl, hq⟩ := q_134
            rw [P3_p z3 (by omega), if_pos hc] at hq
            subst hq
            refine b_aload_n rfl rfl ?_
            refine b_getsW rfl ?_
            refine b_acmp_ne rfl (by omega) (by omega) (fun c_141 => ?_) (fun c_141 => ?_)
            · refine b_iconst rfl ?_
              refine b_icmp_eq rfl (fun c_149 => ?_) (fun c_149 => ?_)
              · refine b_aload_n rfl rfl ?_
                refine b_getR rfl (by first | rfl | assumption) rfl (by assumption) ?_
                refine b_getR rfl (by first | rfl | assumption) rfl (by assumption) ?_
                refine b_iload_n rfl rfl ?_
                refine b_aload_n rfl rfl ?_
                refine b_getsW rfl ?_
                refine b_acmp_ne rfl (by omega) (by omega) (fun c_166 => ?_) (fun c_166 => ?_)
                · refine b_iload rfl rfl ?_
                  refine b_iastore rfl (by first | rfl | assumption) (by first | assumption | exact nI_toInt (by omega) | exact hi_l0 | exact hi_l1 | exact hi_l2 | exact hi_l3 | exact hi_l4 | exact hi_l5 | exact hi_l6) (by omega) ?_
                  refine b_iconst rfl ?_
                  exact b_ireturn rfl trivial (⟨⟨_, rfl, hs_xt_put h hp n4 (Or.inr ⟨s, hk, rfl⟩)⟩, rfl⟩)
                · exact absurd c_166 (by decide)
              · exact absurd rfl c_149
            · exact absurd c_141 (by decide)
          · exact absurd c_88 (by decide)
        · exact absurd c_63 (by decide)
      · exact absurd c_35 (by decide)
    · rw [if_neg hc]
      refine b_aload_n rfl rfl ?_
      refine b_getR rfl (by first | rfl | assumption) rfl (by assumption) ?_
      refine b_getR rfl (by first | rfl | assumption) rfl (by assumption) ?_
      refine b_iload_n rfl rfl ?_
      refine b_aaload rfl (by first | assumption | rfl) (by decide) (by first | assumption | exact nI_toInt (by omega) | exact hi_l0 | exact hi_l1 | exact hi_l2 | exact hi_l3 | exact hi_l4 | exact hi_l5 | exact hi_l6) (by omega) (by assumption) ?_
      refine b_astore_n rfl (Nat.le_of_ble_eq_true rfl) ?_
      refine b_aload_n rfl rfl ?_
      refine b_getR rfl (by first | rfl | assumption) rfl (by assumption) ?_
      refine b_getR rfl (by first | rfl | assumption) rfl (by assumption) ?_
      refine b_iload_n rfl rfl ?_
      refine b_iaload rfl (by first | rfl | assumption) (by first | assumption | exact nI_toInt (by omega) | exact hi_l0 | exact hi_l1 | exact hi_l2 | exact hi_l3 | exact hi_l4 | exact hi_l5 | exact hi_l6) (by omega) ?_
      rw [eI2, lf]
      refine b_istore_n rfl (Nat.le_of_ble_eq_true rfl) ?_
      refine b_aload_n rfl rfl ?_
      refine b_getR rfl (by first | rfl | assumption) rfl (by assumption) ?_
      refine b_getR rfl (by first | rfl | assumption) rfl (by assumption) ?_
      refine b_iload_n rfl rfl ?_
      refine b_iaload rfl (by first | rfl | assumption) (by first | assumption | exact nI_toInt (by omega) | exact hi_l0 | exact hi_l1 | exact hi_l2 | exact hi_l3 | exact hi_l4 | exact hi_l5 | exact hi_l6) (by omega) ?_
      rw [eI3, ls]
      refine b_istore rfl (Nat.le_of_ble_eq_true rfl) ?_
      refine b_aload_n rfl rfl ?_
      refine b_getsW rfl ?_
      refine b_acmp_ne rfl (by omega) (by omega) (fun c_35 => ?_) (fun c_35 => ?_)
      · refine b_aload_n rfl rfl ?_
        refine b_getsW rfl ?_
        refine b_acmp_ne rfl (by omega) (by omega) (fun c_63 => ?_) (fun c_63 => ?_)
        · refine b_aload_n rfl rfl ?_
          refine b_getsW rfl ?_
          refine b_acmp_ne rfl (by omega) (by omega) (fun c_88 => ?_) (fun c_88 => ?_)
          · refine b_aload_n rfl rfl ?_
            refine b_getR rfl (by first | rfl | assumption) rfl (by assumption) ?_
            refine b_iload_n rfl rfl ?_
            refine b_callV rfl rfl hk_State_isLying rfl rfl rfl (by first | rfl | assumption) rfl (Nat.le_of_ble_eq_true rfl) (q_State_isLying hSt9 (show f < 4 by omega)) (Nat.le_of_ble_eq_true rfl) (fun r_134 D_134 q_134 => ?_)
            obtain ⟨rfl, hq⟩ := q_134
            rw [P3_p z3 (by omega), if_neg hc] at hq
            subst hq
            refine b_aload_n rfl rfl ?_
            refine b_getsW rfl ?_
            refine b_acmp_ne rfl (by omega) (by omega) (fun c_141 => ?_) (fun c_141 => ?_)
            · refine b_iconst rfl ?_
              refine b_icmp_eq rfl (fun c_149 => ?_) (fun c_149 => ?_)
              · exact absurd c_149 (by decide)
              · refine b_iconst rfl ?_
                exact b_ireturn rfl trivial (⟨⟨I', rfl, h⟩, rfl⟩)
            · exact absurd c_141 (by decide)
          · exact absurd c_88 (by decide)
        · exact absurd c_63 (by decide)
      · exact absurd c_35 (by decide)
  · have hk := w4 (by unfold ln_1; omega)
    have lf := lf (by omega)
    have ls := ls (by unfold ln_1; omega)
    have w3 := w3 rfl
    rw [show jd_step N (4, f, s) q = (sp_tie q f s, 0) by unfold jd_step; simp only; rw [if_neg (by omega), if_pos trivial]]
    refine b_aload_n rfl rfl ?_
    refine b_getR rfl (by first | rfl | assumption) rfl (by assumption) ?_
    refine b_getR rfl (by first | rfl | assumption) rfl (by assumption) ?_
    refine b_iload_n rfl rfl ?_
    refine b_aaload rfl (by first | assumption | rfl) (by decide) (by first | assumption | exact nI_toInt (by omega) | exact hi_l0 | exact hi_l1 | exact hi_l2 | exact hi_l3 | exact hi_l4 | exact hi_l5 | exact hi_l6) (by omega) (by assumption) ?_
    refine b_astore_n rfl (Nat.le_of_ble_eq_true rfl) ?_
    refine b_aload_n rfl rfl ?_
    refine b_getR rfl (by first | rfl | assumption) rfl (by assumption) ?_
    refine b_getR rfl (by first | rfl | assumption) rfl (by assumption) ?_
    refine b_iload_n rfl rfl ?_
    refine b_iaload rfl (by first | rfl | assumption) (by first | assumption | exact nI_toInt (by omega) | exact hi_l0 | exact hi_l1 | exact hi_l2 | exact hi_l3 | exact hi_l4 | exact hi_l5 | exact hi_l6) (by omega) ?_
    rw [eI2, lf]
    refine b_istore_n rfl (Nat.le_of_ble_eq_true rfl) ?_
    refine b_aload_n rfl rfl ?_
    refine b_getR rfl (by first | rfl | assumption) rfl (by assumption) ?_
    refine b_getR rfl (by first | rfl | assumption) rfl (by assumption) ?_
    refine b_iload_n rfl rfl ?_
    refine b_iaload rfl (by first | rfl | assumption) (by first | assumption | exact nI_toInt (by omega) | exact hi_l0 | exact hi_l1 | exact hi_l2 | exact hi_l3 | exact hi_l4 | exact hi_l5 | exact hi_l6) (by omega) ?_
    rw [eI3, ls]
    refine b_istore rfl (Nat.le_of_ble_eq_true rfl) ?_
    refine b_aload_n rfl rfl ?_
    refine b_getsW rfl ?_
    refine b_acmp_ne rfl (by omega) (by omega) (fun c_35 => ?_) (fun c_35 => ?_)
    · refine b_aload_n rfl rfl ?_
      refine b_getsW rfl ?_
      refine b_acmp_ne rfl (by omega) (by omega) (fun c_63 => ?_) (fun c_63 => ?_)
      · exact absurd rfl c_63
      · refine b_aload_n rfl rfl ?_
        refine b_getR rfl (by first | rfl | assumption) rfl (by assumption) ?_
        refine b_getR rfl (by first | rfl | assumption) rfl (by assumption) ?_
        refine b_iload_n rfl rfl ?_
        refine b_dup2_11 rfl rfl rfl ?_
        refine b_iaload rfl (by first | rfl | assumption) (by first | assumption | exact nI_toInt (by omega) | exact hi_l0 | exact hi_l1 | exact hi_l2 | exact hi_l3 | exact hi_l4 | exact hi_l5 | exact hi_l6) (by omega) ?_
        refine b_iconst rfl ?_
        refine b_iload rfl rfl ?_
        refine b_ishl rfl ?_
        refine b_ixor rfl ?_
        refine b_iastore rfl (by first | rfl | assumption) (by first | assumption | exact nI_toInt (by omega) | exact hi_l0 | exact hi_l1 | exact hi_l2 | exact hi_l3 | exact hi_l4 | exact hi_l5 | exact hi_l6) (by omega) ?_
        refine b_iconst rfl ?_
        exact b_ireturn rfl trivial (⟨⟨_, rfl, hs_xt_tie h w3.1 hk n8 w3.2 (by rw [z1])⟩, rfl⟩)
    · exact absurd c_35 (by decide)
/-! all lines -/
def jd (N : sp_N) (S : sp_Q) (L : sp_L) : Nat → sp_Q × Int32 × Int32 := sp_up (fun i s => ((jd_step N (L.2 i) s.1).1, if (jd_step N (L.2 i) s.1).2 = 1 ∧ s.2.1 = -1 then nI i else s.2.1, if (jd_step N (L.2 i) s.1).2 = 2 ∧ s.2.2 = -1 then nI i else s.2.2)) (S, -1, -1)
theorem jd_w {L : sp_L} (hL : hs_Lw N.1 N.2.1 L) (h8 : N.1 ≤ 8) (h4 : N.2.1 ≤ 4) (hw : hs_Qw N.1 N.2.1 S) : ∀ i, i ≤ L.1 → hs_Qw N.1 N.2.1 (jd N S L i).1
  | 0, _ => hw
  | i + 1, hi => jd_step_w hL (by omega) h8 h4 (jd_w hL h8 h4 hw i (by omega))
def sp_aslc (q : sp_Q) (np : Nat) : Int32 := sp_pop (sp_lying (qP q) np &&& (sp_awake (qW q) (qP q) np ^^^ -1))
def v_judged (N : sp_N) (S : sp_Q) (L : sp_L) (w : Int32) : Int32 := if w = 0 then (jd N S L L.1).2.1 else if w = 1 then (jd N S L L.1).2.2 else if w = 2 then sp_aslc (jd N S L L.1).1 N.2.1 else -2
theorem bc_and {x y : Int32} {n : Nat} (h : sp_lt n x) (hn : n ≤ 8) : bc_f (x &&& y) = sp_pop (x &&& y) := by
  obtain ⟨i, hi, e⟩ := sp_lt_all y h (by omega)
  have := (pw8 hn).2
  exact bc_b8 ⟨⟨i, by omega⟩, e⟩
theorem sp_lying_lt {pl : Nat → Int32} {np : Nat} (h : np ≤ 4) : sp_lt np (sp_lying pl np) := by
  unfold sp_lying
  refine sp_lt_all _ ⟨2 ^ np - 1, by have := Nat.two_pow_pos np; omega, ?_⟩ (by omega)
  rcases (show np = 0 ∨ np = 1 ∨ np = 2 ∨ np = 3 ∨ np = 4 by omega) with rfl | rfl | rfl | rfl | rfl <;> decide
theorem q_State_countAsleep {a n np : Nat} {fm : Int32} {q : sp_Q} (ha : hs_St R a) (hX : hs_Qx I a n np fm q) (hn4 : np ≤ 4) : hn_F 3 hm_State_countAsleep [.ref a] (I, J, R) (fun r D' => D' = (I, J, R) ∧ r = some (.int (sp_aslc q np))) := by
  obtain ⟨x1, x2, x3, x4, x5, x6, x7⟩ := hX
  have hk9 := ha.2.1
  refine hn_F_of _ hk_State_countAsleep rfl (Nat.le_of_ble_eq_true rfl) ?_
  refine b_aload_n rfl rfl ?_
  refine b_callV rfl rfl hk_State_lying rfl rfl rfl (by first | rfl | assumption) rfl (Nat.le_of_ble_eq_true rfl) (q_State_lying ha x5 hn4) (Nat.le_of_ble_eq_true rfl) (fun r_1 D_1 q_1 => ?_)
  obtain ⟨rfl, hq⟩ := q_1
  rw [P3_lying x3] at hq
  subst hq
  refine b_aload_n rfl rfl ?_
  refine b_callV rfl rfl hk_State_awake rfl rfl rfl (by first | rfl | assumption) rfl (Nat.le_of_ble_eq_true rfl) (q_State_awake ha x5 hn4) (Nat.le_of_ble_eq_true rfl) (fun r_5 D_5 q_5 => ?_)
  obtain ⟨rfl, hq⟩ := q_5
  rw [x2, P3_awake x3] at hq
  subst hq
  refine b_iconst rfl ?_
  refine b_ixor rfl ?_
  refine b_iand rfl ?_
  refine b_callS rfl rfl hk_JI_bitCount rfl rfl rfl (Nat.le_of_ble_eq_true rfl) (q_bitCount) (Nat.le_of_ble_eq_true rfl) (fun r_11 D_11 q_11 => ?_)
  obtain ⟨rfl, rfl⟩ := q_11
  exact b_ireturn rfl trivial (⟨rfl, by rw [bc_and (sp_lying_lt hn4) (by omega)]; rfl⟩)
theorem hi_ge40 {i : Nat} (h : i < 40) : ¬ (40 : Int32) ≤ nI i := fun z => nI_ge h (by omega) (show nI 40 ≤ nI i from z)
theorem q_X_judged {w : Int32} {l : Nat} {L : sp_L} (hA : hs_A I R t N Q) (hS : hs_Qx I (t + 11) N.1 N.2.1 0 S) (hSw : hs_Qw N.1 N.2.1 S) (hl : R 0 4 = some l) (hL0 : l = 36 ∨ l = 40) (hL : hs_Lx I R l L) (hLw : hs_Lw N.1 N.2.1 L) : hn_F 7 hm_X_judged [.ref 0, .int w] (I, J, R) (fun r D' => hs_sx t I J R D' ∧ r = some (.int (v_judged N S L w))) := by
  have hA0 := hA
  obtain ⟨hR, r2, ht, hN, hX, hw, hz, hAw⟩ := hA
  have hN0 := hN
  have hX0 := hX
  have hw0 := hw
  obtain ⟨n0, n8, n4, nk, nh, na, hc, ncd⟩ := hN
  obtain ⟨x1, x2, x3, x4, x5, x6, x7⟩ := hX
  obtain ⟨r6, r7, r8, r11, r12, r13, r14, r15, r16, r17, r18⟩ := hs_x0 hR
  have hSt := hs_St_of hR (show 44 ∈ hs_sc by decide)
  have hNt := hs_Net_of hR ht
  obtain ⟨_, sk0, sk1, sk2, sk3, sk4, g0, g1, g2, g3⟩ := id hSt
  obtain ⟨tt5, tn0, tn1, tn2, tn3, tn4, tn5, tn6, tn7, tn8, tn9, tn10, ts1, ts2, ts3, ts4, ts5, ts7, ts8, tl0, tl2, tl6, tl7⟩ := id hNt
  have hSt9 := hs_St_of hR (show 49 ∈ hs_sc by decide)
  have hSt11 : hs_St R (t + 11) := hs_St_of hR (by rcases ht with rfl | rfl <;> decide)
  have hLr := hs_Lr_of hR hL0
  have lk0 := hLr.2.1
  refine hn_F_of _ hk_X_judged rfl (Nat.le_of_ble_eq_true rfl) ?_
  have t2 : (2 : Int32).toInt = 2 := rfl
  by_cases hw9 : 0 ≤ w.toInt ∧ w.toInt ≤ 2
  · obtain ⟨P, hPd⟩ : ∃ P : Option Value → hnD → Prop, P = (fun r D' => hs_sx t I J R D' ∧ r = some (.int (v_judged N S L w))) := ⟨_, rfl⟩
    rw [← hPd]
    have lp : ∀ I', hs_xt t N I (jd N S L 0).1 0 I' → hn_B 7 hm_X_judged P 33 [.ref 0, .int w, .int (jd N S L 0).2.1, .int (jd N S L 0).2.2, .int (nI 0), .null] [] (I', J, R) := by
      refine sp_ind L.1 (fun i => ∀ I', hs_xt t N I (jd N S L i).1 0 I' → hn_B 7 hm_X_judged P 33 [.ref 0, .int w, .int (jd N S L i).2.1, .int (jd N S L i).2.2, .int (nI i), .null] [] (I', J, R)) ?_ ?_
      · intro I' h
        have e3 : I' l 3 = nI L.1 := by rw [h.1 l (fun e => by unfold hs_xs at e; omega)]; exact hL.1
        have hL40 := hL.2.1
        refine b_iload rfl rfl ?_
        refine b_aload_n rfl rfl ?_
        refine b_getR rfl (by first | rfl | assumption) rfl (by assumption) ?_
        refine b_getI rfl (by first | rfl | assumption) rfl ?_
        refine b_icmp_ge rfl (fun c_42 => ?_) (fun c_42 => ?_)
        · refine b_iload_n rfl rfl ?_
          refine b_if_ne rfl (fun c_95 => ?_) (fun c_95 => ?_)
          · refine b_iload_n rfl rfl ?_
            refine b_iconst rfl ?_
            refine b_icmp_ne rfl (fun c_102 => ?_) (fun c_102 => ?_)
            · refine b_aload_n rfl rfl ?_
              refine b_getR rfl (by first | rfl | assumption) rfl (by assumption) ?_
              refine b_callV rfl rfl hk_State_countAsleep rfl rfl rfl (by first | rfl | assumption) rfl (Nat.le_of_ble_eq_true rfl) (q_State_countAsleep hSt9 h.2.1 n4) (Nat.le_of_ble_eq_true rfl) (fun r_113 D_113 q_113 => ?_)
              obtain ⟨rfl, rfl⟩ := q_113
              exact b_ireturn rfl trivial ((by rw [hPd]; first | exact ⟨hs_xt_sx hA0 h, by rw [v_judged, if_neg c_95, if_pos c_102]⟩ | exact ⟨hs_xt_sx hA0 h, by rw [v_judged, if_neg c_95, if_neg c_102, if_pos (hi_eq (x := w) (y := 2) (by have h1 : ¬ w.toInt = 0 := (fun z => c_95 (hi_eq z)); have h2 : ¬ w.toInt = 1 := (fun z => c_102 (hi_eq z)); rw [t2]; omega))]⟩))
            · refine b_iload_n rfl rfl ?_
              refine b_goto rfl ?_
              exact b_ireturn rfl trivial ((by rw [hPd]; first | exact ⟨hs_xt_sx hA0 h, by rw [v_judged, if_neg c_95, if_pos c_102]⟩ | exact ⟨hs_xt_sx hA0 h, by rw [v_judged, if_neg c_95, if_neg c_102, if_pos (hi_eq (x := w) (y := 2) (by have h1 : ¬ w.toInt = 0 := (fun z => c_95 (hi_eq z)); have h2 : ¬ w.toInt = 1 := (fun z => c_102 (hi_eq z)); rw [t2]; omega))]⟩))
          · refine b_iload_n rfl rfl ?_
            exact b_ireturn rfl trivial ((by rw [hPd]; exact ⟨hs_xt_sx hA0 h, by rw [v_judged, if_pos c_95]⟩))
        · exact absurd (by rw [e3]; exact nI_le (Nat.le_refl _) (by omega)) c_42
      · intro i hi ih I' h
        have e3 : I' l 3 = nI L.1 := by rw [h.1 l (fun e => by unfold hs_xs at e; omega)]; exact hL.1
        have hL40 := hL.2.1
        have hs : jd N S L (i + 1) = ((jd_step N (L.2 i) (jd N S L i).1).1, if (jd_step N (L.2 i) (jd N S L i).1).2 = 1 ∧ (jd N S L i).2.1 = -1 then nI i else (jd N S L i).2.1, if (jd_step N (L.2 i) (jd N S L i).1).2 = 2 ∧ (jd N S L i).2.2 = -1 then nI i else (jd N S L i).2.2) := rfl
        rw [hs] at ih
        have ho : (jd_step N (L.2 i) (jd N S L i).1).2 = 0 ∨ (jd_step N (L.2 i) (jd N S L i).1).2 = 1 ∨ (jd_step N (L.2 i) (jd N S L i).1).2 = 2 := by
          unfold jd_step
          repeat' split
          all_goals simp
        have hcall : hn_F 6 hm_X_outcomeOf [.ref 0, .int (nI i)] (I', J, R) (fun r D' => (∃ I2, D' = (I2, J, R) ∧ hs_xt t N I (jd_step N (L.2 i) (jd N S L i).1).1 0 I2) ∧ r = some (.int (nI (jd_step N (L.2 i) (jd N S L i).1).2))) := q_X_outcomeOf hA0 hl hLr hL hLw hi h
        generalize jd_step N (L.2 i) (jd N S L i).1 = o at ih ho hcall
        generalize (jd N S L i).2.1 = w0 at ih ⊢
        generalize (jd N S L i).2.2 = f0 at ih ⊢
        obtain ⟨oq, oo⟩ := o
        simp only at ih ho hcall
        rcases ho with rfl | rfl | rfl
        · refine b_iload rfl rfl ?_
          refine b_aload_n rfl rfl ?_
          refine b_getR rfl (by first | rfl | assumption) rfl (by assumption) ?_
          refine b_getI rfl (by first | rfl | assumption) rfl ?_
          refine b_icmp_ge rfl (fun c_42 => ?_) (fun c_42 => ?_)
          · exact absurd (by rw [← e3]; exact c_42) (nI_ge hi (by omega))
          · refine b_iload rfl rfl ?_
            refine b_bipush rfl ?_
            refine b_icmp_ge rfl (fun c_49 => ?_) (fun c_49 => ?_)
            · exact absurd c_49 (hi_ge40 (by omega))
            · refine b_aload_n rfl rfl ?_
              refine b_iload rfl rfl ?_
              refine b_callV rfl rfl hk_X_outcomeOf rfl rfl rfl (by first | rfl | assumption) rfl (Nat.le_of_ble_eq_true rfl) (hcall) (Nat.le_of_ble_eq_true rfl) (fun r_55 D_55 q_55 => ?_)
              obtain ⟨⟨I2, rfl, h2⟩, rfl⟩ := q_55
              refine b_istore rfl (Nat.le_of_ble_eq_true rfl) ?_
              refine b_iload rfl rfl ?_
              refine b_iconst rfl ?_
              refine b_icmp_ne rfl (fun c_63 => ?_) (fun c_63 => ?_)
              · refine b_iload rfl rfl ?_
                refine b_iconst rfl ?_
                refine b_icmp_ne rfl (fun c_77 => ?_) (fun c_77 => ?_)
                · refine b_iinc rfl rfl (Nat.le_of_ble_eq_true rfl) ?_
                  refine b_goto rfl ?_
                  rw [if_neg (by omega), if_neg (by omega)] at ih
                  exact b_lp (ih I2 h2) (le_e (le_e (le_e (le_e (le_q (by rw [nI_succ]) (le_n le_0)))))) rfl rfl
                · exact absurd c_77 (by decide)
              · exact absurd c_63 (by decide)
        · refine b_iload rfl rfl ?_
          refine b_aload_n rfl rfl ?_
          refine b_getR rfl (by first | rfl | assumption) rfl (by assumption) ?_
          refine b_getI rfl (by first | rfl | assumption) rfl ?_
          refine b_icmp_ge rfl (fun c_42 => ?_) (fun c_42 => ?_)
          · exact absurd (by rw [← e3]; exact c_42) (nI_ge hi (by omega))
          · refine b_iload rfl rfl ?_
            refine b_bipush rfl ?_
            refine b_icmp_ge rfl (fun c_49 => ?_) (fun c_49 => ?_)
            · exact absurd c_49 (hi_ge40 (by omega))
            · refine b_aload_n rfl rfl ?_
              refine b_iload rfl rfl ?_
              refine b_callV rfl rfl hk_X_outcomeOf rfl rfl rfl (by first | rfl | assumption) rfl (Nat.le_of_ble_eq_true rfl) (hcall) (Nat.le_of_ble_eq_true rfl) (fun r_55 D_55 q_55 => ?_)
              obtain ⟨⟨I2, rfl, h2⟩, rfl⟩ := q_55
              refine b_istore rfl (Nat.le_of_ble_eq_true rfl) ?_
              refine b_iload rfl rfl ?_
              refine b_iconst rfl ?_
              refine b_icmp_ne rfl (fun c_63 => ?_) (fun c_63 => ?_)
              · exact absurd rfl c_63
              · refine b_iload_n rfl rfl ?_
                refine b_iconst rfl ?_
                refine b_icmp_ne rfl (fun c_68 => ?_) (fun c_68 => ?_)
                · refine b_iload rfl rfl ?_
                  refine b_iconst rfl ?_
                  refine b_icmp_ne rfl (fun c_77 => ?_) (fun c_77 => ?_)
                  · refine b_iinc rfl rfl (Nat.le_of_ble_eq_true rfl) ?_
                    refine b_goto rfl ?_
                    rw [if_neg (show ¬ ((1 : Nat) = 2 ∧ f0 = -1) by omega)] at ih
                    first | (rw [if_pos ⟨rfl, c_68⟩] at ih; exact b_lp (ih I2 h2) (le_e (le_e (le_e (le_e (le_q (by rw [nI_succ]) (le_n le_0)))))) rfl rfl) | (rw [if_neg (fun z => c_68 z.2)] at ih; exact b_lp (ih I2 h2) (le_e (le_e (le_e (le_e (le_q (by rw [nI_succ]) (le_n le_0)))))) rfl rfl)
                  · exact absurd c_77 (by decide)
                · refine b_iload rfl rfl ?_
                  refine b_istore_n rfl (Nat.le_of_ble_eq_true rfl) ?_
                  refine b_iload rfl rfl ?_
                  refine b_iconst rfl ?_
                  refine b_icmp_ne rfl (fun c_77 => ?_) (fun c_77 => ?_)
                  · refine b_iinc rfl rfl (Nat.le_of_ble_eq_true rfl) ?_
                    refine b_goto rfl ?_
                    rw [if_neg (show ¬ ((1 : Nat) = 2 ∧ f0 = -1) by omega)] at ih
                    first | (rw [if_pos ⟨rfl, c_68⟩] at ih; exact b_lp (ih I2 h2) (le_e (le_e (le_e (le_e (le_q (by rw [nI_succ]) (le_n le_0)))))) rfl rfl) | (rw [if_neg (fun z => c_68 z.2)] at ih; exact b_lp (ih I2 h2) (le_e (le_e (le_e (le_e (le_q (by rw [nI_succ]) (le_n le_0)))))) rfl rfl)
                  · exact absurd c_77 (by decide)
        · refine b_iload rfl rfl ?_
          refine b_aload_n rfl rfl ?_
          refine b_getR rfl (by first | rfl | assumption) rfl (by assumption) ?_
          refine b_getI rfl (by first | rfl | assumption) rfl ?_
          refine b_icmp_ge rfl (fun c_42 => ?_) (fun c_42 => ?_)
          · exact absurd (by rw [← e3]; exact c_42) (nI_ge hi (by omega))
          · refine b_iload rfl rfl ?_
            refine b_bipush rfl ?_
            refine b_icmp_ge rfl (fun c_49 => ?_) (fun c_49 => ?_)
            · exact absurd c_49 (hi_ge40 (by omega))
            · refine b_aload_n rfl rfl ?_
              refine b_iload rfl rfl ?_
              refine b_callV rfl rfl hk_X_outcomeOf rfl rfl rfl (by first | rfl | assumption) rfl (Nat.le_of_ble_eq_true rfl) (hcall) (Nat.le_of_ble_eq_true rfl) (fun r_55 D_55 q_55 => ?_)
              obtain ⟨⟨I2, rfl, h2⟩, rfl⟩ := q_55
              refine b_istore rfl (Nat.le_of_ble_eq_true rfl) ?_
              refine b_iload rfl rfl ?_
              refine b_iconst rfl ?_
              refine b_icmp_ne rfl (fun c_63 => ?_) (fun c_63 => ?_)
              · refine b_iload rfl rfl ?_
                refine b_iconst rfl ?_
                refine b_icmp_ne rfl (fun c_77 => ?_) (fun c_77 => ?_)
                · exact absurd rfl c_77
                · refine b_iload_n rfl rfl ?_
                  refine b_iconst rfl ?_
                  refine b_icmp_ne rfl (fun c_82 => ?_) (fun c_82 => ?_)
                  · refine b_iinc rfl rfl (Nat.le_of_ble_eq_true rfl) ?_
                    refine b_goto rfl ?_
                    rw [if_neg (show ¬ ((2 : Nat) = 1 ∧ w0 = -1) by omega)] at ih
                    first | (rw [if_pos ⟨rfl, c_82⟩] at ih; exact b_lp (ih I2 h2) (le_e (le_e (le_e (le_e (le_q (by rw [nI_succ]) (le_n le_0)))))) rfl rfl) | (rw [if_neg (fun z => c_82 z.2)] at ih; exact b_lp (ih I2 h2) (le_e (le_e (le_e (le_e (le_q (by rw [nI_succ]) (le_n le_0)))))) rfl rfl)
                  · refine b_iload rfl rfl ?_
                    refine b_istore_n rfl (Nat.le_of_ble_eq_true rfl) ?_
                    refine b_iinc rfl rfl (Nat.le_of_ble_eq_true rfl) ?_
                    refine b_goto rfl ?_
                    rw [if_neg (show ¬ ((2 : Nat) = 1 ∧ w0 = -1) by omega)] at ih
                    first | (rw [if_pos ⟨rfl, c_82⟩] at ih; exact b_lp (ih I2 h2) (le_e (le_e (le_e (le_e (le_q (by rw [nI_succ]) (le_n le_0)))))) rfl rfl) | (rw [if_neg (fun z => c_82 z.2)] at ih; exact b_lp (ih I2 h2) (le_e (le_e (le_e (le_e (le_q (by rw [nI_succ]) (le_n le_0)))))) rfl rfl)
              · exact absurd c_63 (by decide)
    refine b_iload_n rfl rfl ?_
    refine b_if_lt rfl (fun c_1 => ?_) (fun c_1 => ?_)
    · exact absurd ((hi_lt rfl hi_t0).mp c_1) (by omega)
    · refine b_iload_n rfl rfl ?_
      refine b_iconst rfl ?_
      refine b_icmp_le rfl (fun c_6 => ?_) (fun c_6 => ?_)
      · refine b_aload_n rfl rfl ?_
        refine b_getR rfl (by first | rfl | assumption) rfl (by assumption) ?_
        refine b_aload_n rfl rfl ?_
        refine b_getR rfl (by first | rfl | assumption) rfl (by assumption) ?_
        refine b_getR rfl (by first | rfl | assumption) rfl (by assumption) ?_
        refine b_callV rfl rfl hk_State_copy rfl rfl rfl (by first | rfl | assumption) rfl (Nat.le_of_ble_eq_true rfl) (qx_copy hSt9 hSt11 (by omega) hz (hs_z_of hS hSw n8 n4) hS) (Nat.le_of_ble_eq_true rfl) (fun r_23 D_23 q_23 => ?_)
        obtain ⟨rfl, hf, g1⟩ := q_23
        obtain ⟨I1, rfl, hI1⟩ := hf.out
        refine b_iconst rfl ?_
        refine b_istore_n rfl (Nat.le_of_ble_eq_true rfl) ?_
        refine b_iconst rfl ?_
        refine b_istore_n rfl (Nat.le_of_ble_eq_true rfl) ?_
        refine b_iconst rfl ?_
        refine b_istore rfl (Nat.le_of_ble_eq_true rfl) ?_
        exact b_lp (lp I1 ⟨fun b hb => hI1 b (fun e => hb (Or.inl (by omega))), g1, hSw⟩) (le_e (le_e (le_e (le_e (le_q (by rw [nI_0]) (le_n le_0)))))) rfl rfl
      · exact absurd ((hi_le rfl t2).mpr hw9.2) c_6
  · have hv : v_judged N S L w = -2 := by
      rw [v_judged, if_neg (fun z => hw9 (by rw [z]; decide)), if_neg (fun z => hw9 (by rw [z]; decide)), if_neg (fun z => hw9 (by rw [z]; decide))]
    rw [hv]
    refine b_iload_n rfl rfl ?_
    refine b_if_lt rfl (fun c_1 => ?_) (fun c_1 => ?_)
    · refine b_bipush rfl ?_
      exact b_ireturn rfl trivial (⟨hs_sx_r hz, rfl⟩)
    · refine b_iload_n rfl rfl ?_
      refine b_iconst rfl ?_
      refine b_icmp_le rfl (fun c_6 => ?_) (fun c_6 => ?_)
      · exact absurd ⟨by have := mt (hi_lt (x := w) rfl hi_t0).mpr c_1; omega, (hi_le rfl t2).mp c_6⟩ hw9
      · refine b_bipush rfl ?_
        exact b_ireturn rfl trivial (⟨hs_sx_r hz, rfl⟩)
end HNjudged
