section HNalone
variable {I I' : Nat → Nat → Int32} {J J' : Nat → Nat → Int64} {R : Nat → Nat → Option Nat} {t : Nat} {N : sp_N} {Q Q' S : sp_Q} {U : sp_U} {V : sp_V}
/-- one alone: will, place, shifts -/
abbrev sp_Z : Type := Int32 × Int32 × Int32
abbrev al_pk (N : sp_N) (s : Nat → Int32) (z : sp_Z) : Option Nat := sp_pick (nH N) (s z.2.1.toNatClampNeg) (nI 0 = -1) N.1
abbrev al_w (N : sp_N) (k : Nat) (z : sp_Z) : Int32 := sp_will (nK N) (nH N) (nF N) 0 k z.1 z.2.2 0
def al_step (N : sp_N) (s : Nat → Int32) (z : sp_Z) : sp_Z :=
  if ¬ z.2.1 = -1 ∧ 0 < z.1 then (match al_pk N s z with
    | none => z
    | some k => (al_w N k z, if sp_fall (nK N) (nH N) 0 k (al_w N k z) then -1 else nI k, z.2.2 + 1)) else z
def al (N : sp_N) (s : Nat → Int32) (w f : Int32) : Nat → sp_Z := sp_up (fun _ z => al_step N s z) (w, f, 0)
abbrev al_pl (n : Nat) (z : sp_Z) : Prop := z.2.1 = -1 ∨ ∃ q, q < n ∧ z.2.1 = nI q
theorem al_step_pl {s : Nat → Int32} {z : sp_Z} (h : al_pl N.1 z) : al_pl N.1 (al_step N s z) := by
  unfold al_step
  split
  · cases hp : al_pk N s z with
    | none => exact h
    | some k =>
      simp only
      have hk := sp_pick_lt _ _ _ _ _ hp
      split
      · exact Or.inl rfl
      · exact Or.inr ⟨k, hk, rfl⟩
  · exact h
theorem al_pls {s : Nat → Int32} {w f : Int32} (h : f = -1 ∨ ∃ q, q < N.1 ∧ f = nI q) : ∀ i, al_pl N.1 (al N s w f i)
  | 0 => h
  | i + 1 => al_step_pl (al_pls h i)
/-- a net with one person -/
abbrev n1 (N : sp_N) : sp_N := (N.1, 1, N.2.2)
abbrev q0 (q : sp_Q) : sp_Z := (qW q 0, qP q 0, qH q 0)
theorem al_hr {q : sp_Q} (h8 : N.1 ≤ 8) (hns : hs_ns (qS q)) (hpl : hs_pl N.1 (qP q)) : q0 (sp_hr (n1 N) 0 (-1) q).1 = al_step N (qS q) (q0 q) := by
  show ((sp_ps N.1 (nK N) (nH N) (nF N) 0 (qS q) 1 (-1) 0 ((qW q, qP q, qH q), 0)).1.1 0, (sp_ps N.1 (nK N) (nH N) (nF N) 0 (qS q) 1 (-1) 0 ((qW q, qP q, qH q), 0)).1.2.1 0, (sp_ps N.1 (nK N) (nH N) (nF N) 0 (qS q) 1 (-1) 0 ((qW q, qP q, qH q), 0)).1.2.2 0) = _
  unfold sp_ps al_step
  by_cases ha : sp_awk (qW q) (qP q) 0
  · rw [if_pos ha, if_pos (show ¬ (q0 q).2.1 = -1 ∧ 0 < (q0 q).1 from ha)]
    show _ = (match sp_pick (nH N) (qS q (qP q 0).toNatClampNeg) (nI 0 = -1) N.1 with
      | none => q0 q
      | some k => (al_w N k (q0 q), if sp_fall (nK N) (nH N) 0 k (al_w N k (q0 q)) then -1 else nI k, (q0 q).2.2 + 1))
    cases hp : sp_pick (nH N) (qS q (qP q 0).toNatClampNeg) (nI 0 = -1) N.1 with
    | none => rfl
    | some k =>
      have hk := sp_pick_lt _ _ _ _ _ hp
      have hb := sp_pick_bit _ _ _ _ _ hp
      have hne : ¬ qP q 0 = nI k := by
        intro e
        rw [e, nI_clamp (by omega)] at hb
        exact hns k (by omega) hb
      have ho : sp_others (qP q) k 1 = 0 := by
        show sp_pop (if qP q 0 = nI k then _ else 0) = 0
        rw [if_neg hne]; exact sp_pop_0
      have hg : sp_gw (nK N) (nH N) (nF N) 0 1 (qW q, qP q, qH q) 0 k = al_w N k (q0 q) := by
        unfold sp_gw; rw [ho]
      show (va_up (qW q) 0 (sp_gw (nK N) (nH N) (nF N) 0 1 (qW q, qP q, qH q) 0 k) 0, va_up (qP q) 0 (if sp_fall (nK N) (nH N) 0 k (sp_gw (nK N) (nH N) (nF N) 0 1 (qW q, qP q, qH q) 0 k) then -1 else nI k) 0, va_up (qH q) 0 (qH q 0 + 1) 0) = _
      rw [hg, va_up, va_up, va_up, if_pos rfl, if_pos rfl, if_pos rfl]
  · rw [if_neg ha, if_neg (show ¬ (¬ (q0 q).2.1 = -1 ∧ 0 < (q0 q).1) from ha)]
theorem al_hr_ge {q : sp_Q} {i : Nat} (hi : 1 ≤ i) : qW (sp_hr (n1 N) 0 (-1) q).1 i = qW q i ∧ qP (sp_hr (n1 N) 0 (-1) q).1 i = qP q i ∧ qH (sp_hr (n1 N) 0 (-1) q).1 i = qH q i :=
  sp_ps_ne (n := N.1) (kd := nK N) (hd := nH N) (lf := nF N) (fm := 0) (s := qS q) (np := 1) (odd := -1) (p := 0) (T := ((qW q, qP q, qH q), 0)) (show i ≠ 0 by omega)
theorem al_hr_pl {q : sp_Q} (hpl : hs_pl N.1 (qP q)) : hs_pl N.1 (qP (sp_hr (n1 N) 0 (-1) q).1) := hs_pl_pass (np := 1) (S := (qW q, qP q, qH q)) hpl 1
/-! what is seen -/
abbrev al_ok (pa : Nat → Int32) (V : sp_V) : Prop := ∀ i, i < V.2.1 → (pa (V.2.2.2.1 i).toNatClampNeg = V.2.2.1 i ↔ V.2.2.2.2 i = 1)
abbrev al_pos (N : sp_N) (s : Nat → Int32) (V : sp_V) (w : Int32) : Prop := V.2.1 = 0 ∨ al_ok (fun i => (al N s w V.1 i).2.1) V
def hs_Vw (n : Nat) (V : sp_V) : Prop := (0 < V.2.1 → ∃ f, f < n ∧ V.1 = nI f) ∧ (∀ i, i < V.2.1 → ∃ j, j ≤ 30 ∧ V.2.2.2.1 i = nI j) ∧ (∀ i, i < V.2.1 → V.2.2.2.2 i = 0 ∨ V.2.2.2.2 i = 1)
theorem hi_31 : Int32.ofNat 31 = 31 := by decide
theorem q_Seen_agrees {n : Nat} {pa : Nat → Int32} (ha : hs_Se R 135) (hV : hs_Vx I 135 V) (hw : hs_Vw n V) (hp : ∀ i, i ≤ 30 → I 186 i = pa i) : hn_F 0 hm_Seen_agrees [.ref 135, .ref 186] (I, J, R) (fun r D' => D' = (I, J, R) ∧ ((al_ok pa V ∧ r = some (.int 1)) ∨ (¬ al_ok pa V ∧ r = some (.int 0)))) := by
  obtain ⟨a1, a2, k0, k1, k2, k3, r2, r3, r4⟩ := ha
  obtain ⟨v1, v2, v3, v4, v5⟩ := hV
  have k186 : hn_kind 186 = (1, 31) := rfl
  refine hn_F_of _ hk_Seen_agrees rfl (Nat.le_of_ble_eq_true rfl) ?_
  obtain ⟨P, hPd⟩ : ∃ P : Option Value → hnD → Prop, P = (fun r D' => D' = (I, J, R) ∧ ((al_ok pa V ∧ r = some (.int 1)) ∨ (¬ al_ok pa V ∧ r = some (.int 0)))) := ⟨_, rfl⟩
  rw [← hPd]
  have lp : (∀ i, i < 0 → (pa (V.2.2.2.1 i).toNatClampNeg = V.2.2.1 i ↔ V.2.2.2.2 i = 1)) → hn_B 0 hm_Seen_agrees P 2 [.ref 135, .ref 186, .int (nI 0), .null] [] (I, J, R) := by
    refine sp_ind V.2.1 (fun k => (∀ i, i < k → (pa (V.2.2.2.1 i).toNatClampNeg = V.2.2.1 i ↔ V.2.2.2.2 i = 1)) → hn_B 0 hm_Seen_agrees P 2 [.ref 135, .ref 186, .int (nI k), .null] [] (I, J, R)) ?_ ?_
    · intro hall
      refine b_iload_n rfl rfl ?_
      refine b_aload_n rfl rfl ?_
      refine b_getI rfl (by first | rfl | assumption) rfl ?_
      rw [v1]
      refine b_icmp_ge rfl (fun c_7 => ?_) (fun c_7 => ?_)
      · refine b_iconst rfl ?_
        exact b_ireturn rfl (by first | exact Or.inl rfl | exact Or.inr rfl | exact trivial) ((by rw [hPd]; exact ⟨rfl, Or.inl ⟨hall, rfl⟩⟩))
      · exact absurd (nI_le (Nat.le_refl _) (by omega)) c_7
    · intro k hk ih hall
      obtain ⟨j, hj, ej⟩ := hw.2.1 k hk
      obtain ⟨e1, e2, e3⟩ := v4 k hk
      have e9 : pa (V.2.2.2.1 k).toNatClampNeg = I 186 j := by rw [ej, nI_clamp (by omega), hp j hj]
      have good : (I 186 j = V.2.2.1 k ↔ V.2.2.2.2 k = 1) → hn_B 0 hm_Seen_agrees P 2 [.ref 135, .ref 186, .int (nI (k + 1)), .null] [] (I, J, R) := by
        intro hg
        refine ih (fun i hi => ?_)
        by_cases e : i = k
        · subst e; rw [e9]; exact hg
        · exact hall i (by omega)
      have bad : ¬ (I 186 j = V.2.2.1 k ↔ V.2.2.2.2 k = 1) → ¬ al_ok pa V := fun hg h => hg (by rw [← e9]; exact h k hk)
      have c20 : ∀ z : Int32, Int32.ofNat 31 ≤ nI j → False := fun _ z => nI_ge (b := 31) (show j < 31 by omega) (by omega) z
      refine b_iload_n rfl rfl ?_
      refine b_aload_n rfl rfl ?_
      refine b_getI rfl (by first | rfl | assumption) rfl ?_
      rw [v1]
      refine b_icmp_ge rfl (fun c_7 => ?_) (fun c_7 => ?_)
      · exact absurd c_7 (nI_ge hk (by omega))
      · refine b_aload_n rfl rfl ?_
        refine b_getR rfl (by first | rfl | assumption) rfl (by assumption) ?_
        refine b_iload_n rfl rfl ?_
        refine b_iaload rfl (by first | rfl | assumption) (by first | assumption | exact nI_toInt (by omega) | exact hi_l0 | exact hi_l1 | exact hi_l2 | exact hi_l3 | exact hi_l4 | exact hi_l5 | exact hi_l6) (by omega) ?_
        rw [show I (135 + 2) k = nI j from e2.trans ej]
        refine b_istore_n rfl (Nat.le_of_ble_eq_true rfl) ?_
        refine b_iload_n rfl rfl ?_
        refine b_aload_n rfl rfl ?_
        refine b_arraylength rfl (by first | rfl | assumption) rfl ?_
        refine b_icmp_ge rfl (fun c_20 => ?_) (fun c_20 => ?_)
        · exact (c20 0 c_20).elim
        · refine b_aload_n rfl rfl ?_
          refine b_iload_n rfl rfl ?_
          refine b_iaload rfl (by first | rfl | assumption) (by first | assumption | exact nI_toInt (by omega) | exact hi_l0 | exact hi_l1 | exact hi_l2 | exact hi_l3 | exact hi_l4 | exact hi_l5 | exact hi_l6) (by omega) ?_
          refine b_aload_n rfl rfl ?_
          refine b_getR rfl (by first | rfl | assumption) rfl (by assumption) ?_
          refine b_iload_n rfl rfl ?_
          refine b_iaload rfl (by first | rfl | assumption) (by first | assumption | exact nI_toInt (by omega) | exact hi_l0 | exact hi_l1 | exact hi_l2 | exact hi_l3 | exact hi_l4 | exact hi_l5 | exact hi_l6) (by omega) ?_
          rw [show I (135 + 1) k = V.2.2.1 k from e1]
          refine b_icmp_ne rfl (fun c_32 => ?_) (fun c_32 => ?_)
          · refine b_iconst rfl ?_
            refine b_aload_n rfl rfl ?_
            refine b_getR rfl (by first | rfl | assumption) rfl (by assumption) ?_
            refine b_iload_n rfl rfl ?_
            refine b_baload rfl (by first | rfl | assumption) (by first | assumption | exact nI_toInt (by omega) | exact hi_l0 | exact hi_l1 | exact hi_l2 | exact hi_l3 | exact hi_l4 | exact hi_l5 | exact hi_l6) (by omega) ?_
            rw [show I (135 + 3) k = V.2.2.2.2 k from e3]
            refine b_icmp_eq rfl (fun c_46 => ?_) (fun c_46 => ?_)
            · have hg : I 186 j = V.2.2.1 k ↔ V.2.2.2.2 k = 1 := by first | exact ⟨fun _ => c_46.symm, fun _ => c_32⟩ | exact ⟨fun z => absurd z c_32, fun z => absurd (c_46.trans z) (by decide)⟩
              refine b_iinc rfl rfl (Nat.le_of_ble_eq_true rfl) ?_
              refine b_goto rfl ?_
              exact b_lp (good hg) (le_e (le_e (le_q (by rw [nI_succ]) (le_n le_0)))) rfl rfl
            · refine b_iconst rfl ?_
              exact b_ireturn rfl (by first | exact Or.inl rfl | exact Or.inr rfl | exact trivial) ((by rw [hPd]; first | exact ⟨rfl, Or.inr ⟨bad (fun z => c_46 (z.mp c_32).symm), rfl⟩⟩ | exact ⟨rfl, Or.inr ⟨bad (fun z => c_32 (z.mpr ((hw.2.2 k hk).resolve_left (fun y => c_46 y.symm)))), rfl⟩⟩))
          · refine b_iconst rfl ?_
            refine b_goto rfl ?_
            refine b_aload_n rfl rfl ?_
            refine b_getR rfl (by first | rfl | assumption) rfl (by assumption) ?_
            refine b_iload_n rfl rfl ?_
            refine b_baload rfl (by first | rfl | assumption) (by first | assumption | exact nI_toInt (by omega) | exact hi_l0 | exact hi_l1 | exact hi_l2 | exact hi_l3 | exact hi_l4 | exact hi_l5 | exact hi_l6) (by omega) ?_
            rw [show I (135 + 3) k = V.2.2.2.2 k from e3]
            refine b_icmp_eq rfl (fun c_46 => ?_) (fun c_46 => ?_)
            · have hg : I 186 j = V.2.2.1 k ↔ V.2.2.2.2 k = 1 := by first | exact ⟨fun _ => c_46.symm, fun _ => c_32⟩ | exact ⟨fun z => absurd z c_32, fun z => absurd (c_46.trans z) (by decide)⟩
              refine b_iinc rfl rfl (Nat.le_of_ble_eq_true rfl) ?_
              refine b_goto rfl ?_
              exact b_lp (good hg) (le_e (le_e (le_q (by rw [nI_succ]) (le_n le_0)))) rfl rfl
            · refine b_iconst rfl ?_
              exact b_ireturn rfl (by first | exact Or.inl rfl | exact Or.inr rfl | exact trivial) ((by rw [hPd]; first | exact ⟨rfl, Or.inr ⟨bad (fun z => c_46 (z.mp c_32).symm), rfl⟩⟩ | exact ⟨rfl, Or.inr ⟨bad (fun z => c_32 (z.mpr ((hw.2.2 k hk).resolve_left (fun y => c_46 y.symm)))), rfl⟩⟩))
  refine b_iconst rfl ?_
  refine b_istore_n rfl (Nat.le_of_ble_eq_true rfl) ?_
  exact b_lp (lp (fun i hi => absurd hi (by omega))) (le_e (le_e (le_q (by rw [nI_0]) (le_n le_0)))) rfl rfl
/-- what a lone walk may change -/
abbrev hs_x1 (t b : Nat) : Prop := (49 ≤ b ∧ b ≤ 53) ∨ b = t + 9 ∨ b = t + 10 ∨ b = 186
theorem hs_Nx_1 (hN : hs_Nx I t N) : hs_Nx I t (n1 N) := ⟨hN.1, hN.2.1, (show 1 ≤ 4 by omega), hN.2.2.2⟩
theorem hs_Vx_x1 (hV : hs_Vx I 135 V) (ht : t = 4 ∨ t = 20) (hf : ∀ b, ¬ hs_x1 t b → I' b = I b) : hs_Vx I' 135 V := hs_Vx_fr hV (fun b h1 h2 => hf b (fun e => by unfold hs_x1 at e; omega))
theorem al_z {q q' : sp_Q} {I1 I2 : Nat → Nat → Int32} (hz : hs_z I1 49) (h1 : hs_Qx I1 49 N.1 1 0 q) (h2 : hs_Qx I2 49 N.1 1 0 q') (hs : qS q' = qS q) (h : ∀ i, 1 ≤ i → qW q' i = qW q i ∧ qP q' i = qP q i ∧ qH q' i = qH q i) : hs_z I2 49 := by
  obtain ⟨z1, z2⟩ := hz
  obtain ⟨a1, a2, a3, a4, _⟩ := h1
  obtain ⟨b1, b2, b3, b4, _⟩ := h2
  have a3 := P3_p a3 (by omega)
  have b3 := P3_p b3 (by omega)
  refine ⟨fun i hi => by rw [b1, hs, ← a1]; exact z1 i hi, fun i hi => ?_⟩
  obtain ⟨e1, e2, e3⟩ := h i (by omega)
  rw [b2, b3, b4, e1, e2, e3, ← a2, ← a3, ← a4]
  exact z2 i hi
theorem al_start {I1 : Nat → Nat → Int32} {n np : Nat} {w f : Int32} (g1 : hs_Qx I1 49 n np 0 Q) (hz : hs_z I1 49) (h0 : 0 < n) : hs_Qx (hn_u (hn_u (hn_u (hn_u I1 49 4 1) (49 + 2) 0 w) (49 + 3) 0 f) (49 + 4) 0 0) 49 n 1 0 (qS Q, va_up (qW Q) 0 w, va_up (qP Q) 0 f, va_up (qH Q) 0 0, qT Q) ∧ (∀ b, ¬ (49 ≤ b ∧ b ≤ 53) → hn_u (hn_u (hn_u (hn_u I1 49 4 1) (49 + 2) 0 w) (49 + 3) 0 f) (49 + 4) 0 0 b = I1 b) ∧ hs_z (hn_u (hn_u (hn_u (hn_u I1 49 4 1) (49 + 2) 0 w) (49 + 3) 0 f) (49 + 4) 0 0) 49 := by
  obtain ⟨x1, x2, x3, x4, x5, x6, x7⟩ := g1
  obtain ⟨z1, z2⟩ := hz
  obtain ⟨I2, hI2⟩ : ∃ z, z = hn_u (hn_u (hn_u (hn_u I1 49 4 1) (49 + 2) 0 w) (49 + 3) 0 f) (49 + 4) 0 0 := ⟨_, rfl⟩
  rw [← hI2]
  have e1 : I2 (49 + 1) = I1 (49 + 1) := by rw [hI2, hn_u_ne _ _ _ (by omega), hn_u_ne _ _ _ (by omega), hn_u_ne _ _ _ (by omega), hn_u_ne _ _ _ (by omega)]
  have e2 : I2 (49 + 2) = va_up (I1 (49 + 2)) 0 w := by rw [hI2, hn_u_ne _ _ _ (by omega), hn_u_ne _ _ _ (by omega), hn_u_eq, hn_u_ne _ _ _ (by omega)]
  have e3 : I2 (49 + 3) = va_up (I1 (49 + 3)) 0 f := by rw [hI2, hn_u_ne _ _ _ (by omega), hn_u_eq, hn_u_ne _ _ _ (by omega), hn_u_ne _ _ _ (by omega)]
  have e4 : I2 (49 + 4) = va_up (I1 (49 + 4)) 0 0 := by rw [hI2, hn_u_eq, hn_u_ne _ _ _ (by omega), hn_u_ne _ _ _ (by omega), hn_u_ne _ _ _ (by omega)]
  have e0 : I2 49 = va_up (I1 49) 4 1 := by rw [hI2, hn_u_ne _ _ _ (by omega), hn_u_ne _ _ _ (by omega), hn_u_ne _ _ _ (by omega), hn_u_eq]
  refine ⟨⟨by rw [e1]; exact x1, by rw [e2, x2], Or.inl (by rw [e3, P3_n x3 h0]), by rw [e4, x4], by rw [e0, va_up, if_pos rfl]; rfl, by rw [e0, va_up, if_neg (by omega)]; exact x6, by rw [e0, va_up, if_neg (by omega)]; exact x7⟩, fun b hb => by rw [hI2, hn_u_ne _ _ _ (by omega), hn_u_ne _ _ _ (by omega), hn_u_ne _ _ _ (by omega), hn_u_ne _ _ _ (by omega)], fun i hi => by rw [e1]; exact z1 i hi, fun i hi => ?_⟩
  rw [e2, e3, e4]
  unfold va_up
  rw [if_neg (by omega), if_neg (by omega), if_neg (by omega)]
  exact z2 i hi
theorem al_row {f pa : Nat → Int32} {v : Int32} {k i : Nat} (e : v = pa k) (h : ∀ i, i < k → f i = pa i) (hi : i < k + 1) : va_up f k v i = pa i := by
  unfold va_up
  by_cases ek : i = k
  · rw [if_pos ek, ek]; exact e
  · rw [if_neg ek]; exact h i (by omega)
theorem q_X_isPossible {w : Int32} (hA : hs_A I R t N Q) (hV : hs_Vx I 135 V) (hVw : hs_Vw N.1 V) : hn_F 6 hm_X_isPossible [.ref 0, .int w] (I, J, R) (fun r D' => (∃ I2, D' = (I2, J, R) ∧ (∀ b, ¬ hs_x1 t b → I2 b = I b) ∧ hs_z I2 49 ∧ (¬ V.2.1 = 0 → ∀ i, i ≤ 30 → I2 186 i = (al N (qS Q) w V.1 i).2.1)) ∧ ((al_pos N (qS Q) V w ∧ r = some (.int 1)) ∨ (¬ al_pos N (qS Q) V w ∧ r = some (.int 0)))) := by
  have hA0 := hA
  obtain ⟨hR, r2, ht, hN, hX, hw, hz, hAw⟩ := hA
  have hN0 := hN
  have hX0 := hX
  have hw0 := hw
  obtain ⟨n0, n8, n4, nk, nh, na, hc, ncd⟩ := hN
  obtain ⟨x1, x2, x3, x4, x5, x6, x7⟩ := hX
  obtain ⟨r6, r7, r8, r11, r12, r13, r14, r15, r16, r17, r18⟩ := hs_x0 hR
  have hSt := hs_St_of hR (show 44 ∈ hs_sc by decide)
  have hNt := hs_Net_of hR ht
  obtain ⟨_, sk0, sk1, sk2, sk3, sk4, g0, g1, g2, g3⟩ := id hSt
  obtain ⟨tt5, tn0, tn1, tn2, tn3, tn4, tn5, tn6, tn7, tn8, tn9, tn10, ts1, ts2, ts3, ts4, ts5, ts7, ts8, tl0, tl2, tl6, tl7⟩ := id hNt
  have hSt9 := hs_St_of hR (show 49 ∈ hs_sc by decide)
  obtain ⟨_, u0, u1, u2, u3, u4, y0, y1, y2, y3⟩ := id hSt9
  have hSe := hs_Se_of hR (show 135 ∈ [135, 147, 156, 165, 174] by decide)
  have v1 := hV.1
  have v8 := hV.2.1
  have v3 := hV.2.2.1
  have k186 : hn_kind 186 = (1, 31) := rfl
  refine hn_F_of _ hk_X_isPossible rfl (Nat.le_of_ble_eq_true rfl) ?_
  by_cases h0 : V.2.1 = 0
  · refine b_aload_n rfl rfl ?_
    refine b_getR rfl (by first | rfl | assumption) rfl (by assumption) ?_
    refine b_getI rfl (by first | rfl | assumption) rfl ?_
    rw [v1, h0]
    refine b_if_ne rfl (fun c_7 => ?_) (fun c_7 => ?_)
    · exact absurd rfl c_7
    · refine b_iconst rfl ?_
      exact b_ireturn rfl (by first | exact Or.inl rfl | exact Or.inr rfl | exact trivial) (⟨⟨I, rfl, fun _ _ => rfl, hz, fun h => (h (by first | exact h0 | rfl)).elim⟩, Or.inl ⟨Or.inl h0, rfl⟩⟩)
  · obtain ⟨f, hf, ef⟩ := hVw.1 (by omega)
    have hfr : I 135 0 = V.1 := v3 (by omega)
    obtain ⟨P, hPd⟩ : ∃ P : Option Value → hnD → Prop, P = (fun r D' => (∃ I2, D' = (I2, J, R) ∧ (∀ b, ¬ hs_x1 t b → I2 b = I b) ∧ hs_z I2 49 ∧ (¬ V.2.1 = 0 → ∀ i, i ≤ 30 → I2 186 i = (al N (qS Q) w V.1 i).2.1)) ∧ ((al_pos N (qS Q) V w ∧ r = some (.int 1)) ∨ (¬ al_pos N (qS Q) V w ∧ r = some (.int 0)))) := ⟨_, rfl⟩
    rw [← hPd]
    have lp : ∀ I' (q : sp_Q), (∀ b, ¬ hs_x1 t b → I' b = I b) → hs_z I' 49 → hs_Qx I' 49 N.1 1 0 q → qS q = qS Q → hs_pl N.1 (qP q) → q0 q = al N (qS Q) w V.1 0 → (∀ i, i < 0 → I' 186 i = (al N (qS Q) w V.1 i).2.1) → hn_B 6 hm_X_isPossible P 40 [.ref 0, .int w, .int (nI 0)] [] (I', J, R) := by
      refine sp_ind 31 (fun k => ∀ I' (q : sp_Q), (∀ b, ¬ hs_x1 t b → I' b = I b) → hs_z I' 49 → hs_Qx I' 49 N.1 1 0 q → qS q = qS Q → hs_pl N.1 (qP q) → q0 q = al N (qS Q) w V.1 k → (∀ i, i < k → I' 186 i = (al N (qS Q) w V.1 i).2.1) → hn_B 6 hm_X_isPossible P 40 [.ref 0, .int w, .int (nI k)] [] (I', J, R)) ?_ ?_
      · intro I' q hf9 hz9 hX9 es hpl eq hall
        by_cases hpos : al_ok (fun i => (al N (qS Q) w V.1 i).2.1) V
        · refine b_iload_n rfl rfl ?_
          refine b_bipush rfl ?_
          refine b_icmp_gt rfl (fun c_43 => ?_) (fun c_43 => ?_)
          · refine b_aload_n rfl rfl ?_
            refine b_getR rfl (by first | rfl | assumption) rfl (by assumption) ?_
            refine b_aload_n rfl rfl ?_
            refine b_getR rfl (by first | rfl | assumption) rfl (by assumption) ?_
            refine b_callV rfl rfl hk_Seen_agrees rfl rfl rfl (by first | rfl | assumption) rfl (Nat.le_of_ble_eq_true rfl) (q_Seen_agrees (pa := fun i => (al N (qS Q) w V.1 i).2.1) hSe (hs_Vx_x1 hV ht hf9) hVw (fun i hi => hall i (by omega))) (Nat.le_of_ble_eq_true rfl) (fun r_88 D_88 q_88 => ?_)
            obtain ⟨rfl, hq⟩ := q_88
            have hq := (hq.resolve_right (fun z => z.1 hpos)).2
            subst hq
            exact b_ireturn rfl (by first | exact Or.inl rfl | exact Or.inr rfl | exact trivial) ((by rw [hPd]; exact ⟨⟨I', rfl, hf9, hz9, fun _ i hi => hall i (by omega)⟩, Or.inl ⟨Or.inr hpos, rfl⟩⟩))
          · exact absurd (show (30 : Int32) < nI 31 by decide) c_43
        · refine b_iload_n rfl rfl ?_
          refine b_bipush rfl ?_
          refine b_icmp_gt rfl (fun c_43 => ?_) (fun c_43 => ?_)
          · refine b_aload_n rfl rfl ?_
            refine b_getR rfl (by first | rfl | assumption) rfl (by assumption) ?_
            refine b_aload_n rfl rfl ?_
            refine b_getR rfl (by first | rfl | assumption) rfl (by assumption) ?_
            refine b_callV rfl rfl hk_Seen_agrees rfl rfl rfl (by first | rfl | assumption) rfl (Nat.le_of_ble_eq_true rfl) (q_Seen_agrees (pa := fun i => (al N (qS Q) w V.1 i).2.1) hSe (hs_Vx_x1 hV ht hf9) hVw (fun i hi => hall i (by omega))) (Nat.le_of_ble_eq_true rfl) (fun r_88 D_88 q_88 => ?_)
            obtain ⟨rfl, hq⟩ := q_88
            have hq := (hq.resolve_left (fun z => hpos z.1)).2
            subst hq
            exact b_ireturn rfl (by first | exact Or.inl rfl | exact Or.inr rfl | exact trivial) ((by rw [hPd]; exact ⟨⟨I', rfl, hf9, hz9, fun _ i hi => hall i (by omega)⟩, Or.inr ⟨fun h => h.elim h0 hpos, rfl⟩⟩))
          · exact absurd (show (30 : Int32) < nI 31 by decide) c_43
      · intro k hk ih I' q hf9 hz9 hX9 es hpl eq hall
        have hN9 : hs_Nx I' t (n1 N) := hs_Nx_1 (hs_Nx_fr (fun b hb => hf9 b (fun e => hb (by unfold hs_x1 at e; unfold hs_xs; omega))) ht hN0)
        obtain ⟨I1, hI1⟩ : ∃ z, z = hn_u I' 186 k (I' (49 + 3) 0) := ⟨_, rfl⟩
        have f1 : ∀ b, b ≠ 186 → I1 b = I' b := fun b hb => by rw [hI1, hn_u_ne _ _ _ hb]
        have ep : I' (49 + 3) 0 = (al N (qS Q) w V.1 k).2.1 := by rw [P3_p hX9.2.2.1 (by omega)]; exact congrArg (fun z => z.2.1) eq
        have hX1 : hs_Qx I1 49 N.1 1 0 q := hs_Qx_fr hX9 (fun b h1 h2 => f1 b (by omega))
        have hN1 : hs_Nx I1 t (n1 N) := by
          unfold hs_Nx hs_code
          rw [f1 t (by omega), f1 (t + 2) (by omega), f1 (t + 3) (by omega), f1 (t + 4) (by omega), f1 (t + 6) (by omega), f1 (t + 7) (by omega)]
          exact hN9
        refine b_iload_n rfl rfl ?_
        refine b_bipush rfl ?_
        refine b_icmp_gt rfl (fun c_43 => ?_) (fun c_43 => ?_)
        · exact absurd c_43 (fun z => nI_ge (b := 31) hk (by omega) (show nI 31 ≤ nI k from by have h9 := (hi_lt (show (30 : Int32).toInt = 30 from rfl) (nI_toInt (n := k) (by omega))).mp z; exact absurd h9 (by omega)))
        · refine b_aload_n rfl rfl ?_
          refine b_getR rfl (by first | rfl | assumption) rfl (by assumption) ?_
          refine b_iload_n rfl rfl ?_
          refine b_aload_n rfl rfl ?_
          refine b_getR rfl (by first | rfl | assumption) rfl (by assumption) ?_
          refine b_getR rfl (by first | rfl | assumption) rfl (by assumption) ?_
          refine b_iconst rfl ?_
          refine b_iaload rfl (by first | rfl | assumption) (by first | assumption | exact nI_toInt (by omega) | exact hi_l0 | exact hi_l1 | exact hi_l2 | exact hi_l3 | exact hi_l4 | exact hi_l5 | exact hi_l6) (by omega) ?_
          refine b_iastore rfl (by first | rfl | assumption) (by first | assumption | exact nI_toInt (by omega) | exact hi_l0 | exact hi_l1 | exact hi_l2 | exact hi_l3 | exact hi_l4 | exact hi_l5 | exact hi_l6) (by omega) ?_
          rw [← hI1]
          refine b_aload_n rfl rfl ?_
          refine b_getR rfl (by first | rfl | assumption) rfl (by assumption) ?_
          refine b_aload_n rfl rfl ?_
          refine b_getR rfl (by first | rfl | assumption) rfl (by assumption) ?_
          refine b_iconst rfl ?_
          refine b_callV rfl rfl hk_State_passHour rfl rfl rfl (by first | rfl | assumption) rfl (Nat.le_of_ble_eq_true rfl) (qx_hour (N := n1 N) (odd := -1) hSt9 hNt hN1 hX1 hpl) (Nat.le_of_ble_eq_true rfl) (fun r_70 D_70 q_70 => ?_)
          obtain ⟨hfr9, g1, rfl⟩ := q_70
          obtain ⟨I2, rfl, hI2⟩ := hfr9.out
          refine b_pop rfl rfl ?_
          refine b_iinc rfl rfl (Nat.le_of_ble_eq_true rfl) ?_
          refine b_goto rfl ?_
          exact b_lp (ih I2 _ (fun b hb => by rw [hI2 b (fun e => hb (by unfold hs_w at e; unfold hs_x1; omega)), f1 b (fun e => hb (by unfold hs_x1; omega))]; exact hf9 b hb) (al_z (hs_z_fr hz9 (fun b h1 h2 => f1 b (by omega))) hX1 g1 rfl (fun i hi => al_hr_ge hi)) g1 es (al_hr_pl hpl) ((al_hr n8 (by rw [es]; exact hw0.2.2.2.1) hpl).trans (by rw [eq, es]; rfl)) (fun i hi => by rw [hI2 186 (fun e => by unfold hs_w at e; omega), hI1, hn_u_eq]; exact al_row (pa := fun i => (al N (qS Q) w V.1 i).2.1) ep hall hi)) (le_e (le_e (le_q (by rw [nI_succ]) le_0))) rfl rfl
    have hst9 : ∀ I1 : Nat → Nat → Int32, (∀ b, ¬ (49 ≤ b ∧ b ≤ 53) → I1 b = I b) → hs_Qx I1 49 N.1 N.2.1 0 Q → hn_B 6 hm_X_isPossible P 40 [.ref 0, .int w, .int (nI 0)] [] (hn_u (hn_u (hn_u (hn_u I1 49 4 1) (49 + 2) 0 w) (49 + 3) 0 V.1) (49 + 4) 0 0, J, R) := by
      intro I1 g0 g1
      obtain ⟨s1, s2, s3⟩ := al_start (w := w) (f := V.1) g1 (hs_z_of g1 hw0 n8 n4) (by omega)
      refine lp _ (qS Q, va_up (qW Q) 0 w, va_up (qP Q) 0 V.1, va_up (qH Q) 0 0, qT Q) (fun b hb => ?_) s3 s1 rfl (hs_pl_up hw0.1 (Or.inr ⟨f, hf, ef⟩)) ?_ (fun i hi => absurd hi (by omega))
      · rw [s2 b (fun e => hb (by unfold hs_x1; omega))]; exact g0 b (fun e => hb (by unfold hs_x1; omega))
      · show (va_up (qW Q) 0 w 0, va_up (qP Q) 0 V.1 0, va_up (qH Q) 0 0 0) = _
        rw [va_up, va_up, va_up, if_pos rfl, if_pos rfl, if_pos rfl]; rfl
    refine b_aload_n rfl rfl ?_
    refine b_getR rfl (by first | rfl | assumption) rfl (by assumption) ?_
    refine b_getI rfl (by first | rfl | assumption) rfl ?_
    rw [v1]
    refine b_if_ne rfl (fun c_7 => ?_) (fun c_7 => ?_)
    · refine b_aload_n rfl rfl ?_
      refine b_getR rfl (by first | rfl | assumption) rfl (by assumption) ?_
      refine b_aload_n rfl rfl ?_
      refine b_getR rfl (by first | rfl | assumption) rfl (by assumption) ?_
      refine b_callV rfl rfl hk_State_copy rfl rfl rfl (by first | rfl | assumption) rfl (Nat.le_of_ble_eq_true rfl) (qx_copy hSt9 hSt (by omega) hz (hs_z_of hX0 hw0 n8 n4) hX0) (Nat.le_of_ble_eq_true rfl) (fun r_20 D_20 q_20 => ?_)
      obtain ⟨rfl, hf9, g1⟩ := q_20
      obtain ⟨I1, rfl, hI1⟩ := hf9.out
      refine b_aload_n rfl rfl ?_
      refine b_getR rfl (by first | rfl | assumption) rfl (by assumption) ?_
      refine b_iload_n rfl rfl ?_
      refine b_aload_n rfl rfl ?_
      refine b_getR rfl (by first | rfl | assumption) rfl (by assumption) ?_
      refine b_getI rfl (by first | rfl | assumption) rfl ?_
      rw [show I1 135 0 = V.1 by rw [hI1 135 (by omega)]; exact hfr]
      refine b_callV rfl rfl hk_State_leaveOne rfl rfl rfl (by first | rfl | assumption) rfl (Nat.le_of_ble_eq_true rfl) (q_State_leaveOne hSt9) (Nat.le_of_ble_eq_true rfl) (fun r_35 D_35 q_35 => ?_)
      obtain ⟨rfl, rfl⟩ := q_35
      refine b_iconst rfl ?_
      refine b_istore_n rfl (Nat.le_of_ble_eq_true rfl) ?_
      exact b_lp (hst9 I1 hI1 g1) (le_e (le_e (le_q (by rw [nI_0]) le_0))) rfl rfl
    · exact absurd ((hi_nIe (k := 0) (by omega) (by omega)).mp c_7) h0
end HNalone
