section HNhour
variable {I : Nat → Nat → Int32} {J : Nat → Nat → Int64} {R : Nat → Nat → Option Nat}
/-- one person's part of an hour -/
def sp_ps (n : Nat) (kd hd : Nat → Int32) (lf : Int32 → Int32 → Int32 → Int32 → Int32) (fm : Int32) (s : Nat → Int32) (np : Nat) (odd : Int32) (p : Nat) (T : sp_S3 × Int32) : sp_S3 × Int32 :=
  if sp_awk T.1.1 T.1.2.1 p then (match sp_pick hd (s (T.1.2.1 p).toNatClampNeg) (nI p = odd) n with
    | none => T
    | some k => (sp_go kd hd lf fm np T.1 p k, if sp_gf kd hd lf fm np T.1 p k then T.2 ||| ((1 : Int32) <<< (nI p &&& 31)) else T.2)) else T
/-- an hour: where all are behind it, who fell -/
def sp_pass (n : Nat) (kd hd : Nat → Int32) (lf : Int32 → Int32 → Int32 → Int32 → Int32) (fm : Int32) (s : Nat → Int32) (np : Nat) (odd : Int32) (S : sp_S3) : sp_S3 × Int32 := sp_up (sp_ps n kd hd lf fm s np odd) (S, 0) np
/-- all are up or at one of n knots -/
def hs_pl (n : Nat) (pl : Nat → Int32) : Prop := ∀ p, p < 4 → pl p = -1 ∨ ∃ q, q < n ∧ pl p = nI q
theorem hs_pl_up {n p : Nat} {pl : Nat → Int32} {x : Int32} (h : hs_pl n pl) (hx : x = -1 ∨ ∃ q, q < n ∧ x = nI q) : hs_pl n (va_up pl p x) := by
  intro q hq
  unfold va_up
  by_cases e : q = p
  · rw [if_pos e]; exact hx
  · rw [if_neg e]; exact h q hq
theorem hs_pl_go {n np p k : Nat} {kd hd : Nat → Int32} {lf : Int32 → Int32 → Int32 → Int32 → Int32} {fm : Int32} {S : sp_S3} (h : hs_pl n S.2.1) (hk : k < n) : hs_pl n (sp_go kd hd lf fm np S p k).2.1 := by
  refine hs_pl_up h ?_
  by_cases e : sp_gf kd hd lf fm np S p k
  · rw [if_pos e]; exact Or.inl rfl
  · rw [if_neg e]; exact Or.inr ⟨k, hk, rfl⟩
theorem hs_pl_ps {n np p : Nat} {kd hd s : Nat → Int32} {lf : Int32 → Int32 → Int32 → Int32 → Int32} {fm odd : Int32} {T : sp_S3 × Int32} (h : hs_pl n T.1.2.1) : hs_pl n (sp_ps n kd hd lf fm s np odd p T).1.2.1 := by
  unfold sp_ps
  by_cases e : sp_awk T.1.1 T.1.2.1 p
  · rw [if_pos e]
    cases hq : sp_pick hd (s (T.1.2.1 p).toNatClampNeg) (nI p = odd) n with
    | none => exact h
    | some k => exact hs_pl_go h (sp_pick_lt _ _ _ _ _ hq)
  · rw [if_neg e]; exact h
theorem hs_pl_pass {n np : Nat} {kd hd s : Nat → Int32} {lf : Int32 → Int32 → Int32 → Int32 → Int32} {fm odd : Int32} {S : sp_S3} (h : hs_pl n S.2.1) : ∀ m, hs_pl n (sp_up (sp_ps n kd hd lf fm s np odd) (S, 0) m).1.2.1
  | 0 => h
  | m + 1 => hs_pl_ps (hs_pl_pass h m)
theorem q_State_passHour {a t sz np n : Nat} {odd : Int32} (ha : hs_St R a) (ht : hs_Net R t) (hc : hs_code I t sz) (hn : I t 0 = nI n) (hn8 : n ≤ 8) (hnp : I a 4 = nI np) (hn4 : np ≤ 4) (hpl : 0 < np → hs_pl n (I (a + 3))) : hn_F 5 hm_State_passHour [.ref a, .ref t, .int odd] (I, J, R) (fun r D' => hs_fr I J R D' (fun b => hs_w a t b ∨ b = a) ∧ D'.1 a = va_up (I a) 5 (I a 5 + 1) ∧ hs_S3 D'.1 a = (sp_pass n (I (t + 2)) (I (t + 3)) (hs_lf I t sz) (I a 6) (I (a + 1)) np odd (hs_S3 I a)).1 ∧ r = some (.int (sp_pass n (I (t + 2)) (I (t + 3)) (hs_lf I t sz) (I a 6) (I (a + 1)) np odd (hs_S3 I a)).2)) := by
  have ha0 := ha
  have ht0 := ht
  obtain ⟨ha5, k0, k1, k2, k3, k4, r0, r1, r2, r3⟩ := ha
  obtain ⟨ht5, n0, n1, n2, n3, n4, n5, n6, n7, n8, n9, n10, s1, s2, s3, s4, s5, s7, s8, l0, l2, l6, l7⟩ := ht
  refine hn_F_of _ hk_State_passHour rfl (Nat.le_of_ble_eq_true rfl) ?_
  obtain ⟨P, hPd⟩ : ∃ P : Option Value → hnD → Prop, P = (fun r D' => hs_fr I J R D' (fun b => hs_w a t b ∨ b = a) ∧ D'.1 a = va_up (I a) 5 (I a 5 + 1) ∧ hs_S3 D'.1 a = (sp_pass n (I (t + 2)) (I (t + 3)) (hs_lf I t sz) (I a 6) (I (a + 1)) np odd (hs_S3 I a)).1 ∧ r = some (.int (sp_pass n (I (t + 2)) (I (t + 3)) (hs_lf I t sz) (I a 6) (I (a + 1)) np odd (hs_S3 I a)).2)) := ⟨_, rfl⟩
  rw [← hPd]
  obtain ⟨T, hT⟩ : ∃ T, T = sp_up (sp_ps n (I (t + 2)) (I (t + 3)) (hs_lf I t sz) (I a 6) (I (a + 1)) np odd) (hs_S3 I a, 0) := ⟨_, rfl⟩
  have hTs : ∀ p, T (p + 1) = sp_ps n (I (t + 2)) (I (t + 3)) (hs_lf I t sz) (I a 6) (I (a + 1)) np odd p (T p) := fun p => by rw [hT]; rfl
  have hT0 : T 0 = (hs_S3 I a, 0) := by rw [hT]; rfl
  have hTpl : ∀ p, 0 < np → hs_pl n (T p).1.2.1 := fun p h0 => by rw [hT]; exact hs_pl_pass (hpl h0) p
  have hTn : T np = sp_pass n (I (t + 2)) (I (t + 3)) (hs_lf I t sz) (I a 6) (I (a + 1)) np odd (hs_S3 I a) := by rw [hT]; rfl
  have loop : ∀ I' : Nat → Nat → Int32, (∀ b, ¬ hs_w a t b → I' b = I b) → hs_S3 I' a = (T 0).1 → hn_B 5 hm_State_passHour P 5 [.ref a, .ref t, .int odd, .int (T 0).2, .int (nI 0), .null] [] (I', J, R) := by
    refine sp_ind np (fun p => ∀ I' : Nat → Nat → Int32, (∀ b, ¬ hs_w a t b → I' b = I b) → hs_S3 I' a = (T p).1 → hn_B 5 hm_State_passHour P 5 [.ref a, .ref t, .int odd, .int (T p).2, .int (nI p), .null] [] (I', J, R)) ?_ ?_
    · intro I' hf hS
      have e4 : I' a = I a := hf a (fun e => by omega)
      have e44 : I' a 4 = nI np := by rw [e4]; exact hnp
      have fin : P (some (.int (T np).2)) (hn_u I' a 5 (I' a 5 + 1), J, R) := by
        rw [hPd]
        refine ⟨⟨rfl, rfl, fun b hb => ?_⟩, ?_, ?_, ?_⟩
        · show hn_u I' a 5 _ b = I b
          rw [hn_u_ne _ _ _ (fun e => hb (Or.inr e))]
          exact hf b (fun e => hb (Or.inl e))
        · show hn_u I' a 5 _ a = _
          rw [hn_u_eq, e4]
        · show hs_S3 (hn_u I' a 5 _) a = _
          rw [← hTn, ← hS]
          simp only [hs_S3]
          rw [hn_u_ne _ _ _ (show ¬ a + 2 = a by omega), hn_u_ne _ _ _ (show ¬ a + 3 = a by omega), hn_u_ne _ _ _ (show ¬ a + 4 = a by omega)]
        · rw [hTn]
      refine b_iload rfl rfl ?_
      refine b_aload_n rfl rfl ?_
      refine b_getI rfl (by first | rfl | assumption) rfl ?_
      refine b_icmp_ge rfl (fun c_11 => ?_) (fun c_11 => ?_)
      · refine b_aload_n rfl rfl ?_
        refine b_dup rfl rfl ?_
        refine b_getI rfl (by first | rfl | assumption) rfl ?_
        refine b_iconst rfl ?_
        refine b_iadd rfl ?_
        refine b_putI rfl (by first | rfl | assumption) rfl rfl ⟨rfl, rfl⟩ ?_
        refine b_iload_n rfl rfl ?_
        exact b_ireturn rfl trivial (fin)
      · exact absurd (by rw [e44]; exact nI_le (Nat.le_refl _) (by omega)) c_11
    · intro p hp ih I' hf hS
      have e0 : I' a = I a := hf a (fun e => by omega)
      have e44 : I' a 4 = nI np := by rw [e0]; exact hnp
      have e1 : I' (a + 1) = I (a + 1) := hf _ (fun e => by omega)
      have et0 : I' t = I t := hf _ (fun e => by omega)
      have et2 : I' (t + 2) = I (t + 2) := hf _ (fun e => by omega)
      have et3 : I' (t + 3) = I (t + 3) := hf _ (fun e => by omega)
      have et6 : I' (t + 6) = I (t + 6) := hf _ (fun e => by omega)
      have et7 : I' (t + 7) = I (t + 7) := hf _ (fun e => by omega)
      have hc' : hs_code I' t sz := by unfold hs_code; rw [et6, et7]; exact hc
      have hlf : hs_lf I' t sz = hs_lf I t sz := by unfold hs_lf; rw [et7]
      have hn' : I' t 0 = nI n := by rw [et0]; exact hn
      have w2 : I' (a + 2) = (T p).1.1 := congrArg (fun z => z.1) hS
      have w3 : I' (a + 3) = (T p).1.2.1 := congrArg (fun z => z.2.1) hS
      have hTe := hTs p
      have hplp := hTpl p (by omega) p (by omega)
      by_cases haw : sp_awk (T p).1.1 (T p).1.2.1 p
      · obtain ⟨q, hq, hpq⟩ : ∃ q, q < n ∧ (T p).1.2.1 p = nI q := by
          rcases hplp with h | h
          · exact absurd h haw.1
          · exact h
        have hix : (I' (a + 3) p).toInt = (q : Int) := by rw [w3, hpq]; exact nI_toInt (by omega)
        have hcl : ((T p).1.2.1 p).toNatClampNeg = q := by rw [hpq]; exact nI_clamp (by omega)
        rw [sp_ps, if_pos haw, hcl] at hTe
        have J50 : ∀ b : Int32, b = (if nI p = odd then 1 else 0) → hn_B 5 hm_State_passHour P 50 [.ref a, .ref t, .int odd, .int (T p).2, .int (nI p), .null] [.int b, .int (I' (a + 1) q), .ref t] (I', J, R) := by
          intro b hb
          cases ho : sp_pick (I (t + 3)) (I (a + 1) q) (nI p = odd) n with
          | none =>
            rw [ho] at hTe
            refine b_callV rfl rfl hk_Net_pick rfl rfl rfl (by first | rfl | assumption) rfl (Nat.le_of_ble_eq_true rfl) (q_Net_pick (nI p = odd) ht0 hn' hn8 hb) (Nat.le_of_ble_eq_true rfl) (fun r_50 D_50 q_50 => ?_)
            obtain ⟨rfl, hq5⟩ := q_50
            rw [et3, e1, ho] at hq5
            subst hq5
            refine b_istore rfl (Nat.le_of_ble_eq_true rfl) ?_
            refine b_iload rfl rfl ?_
            refine b_iconst rfl ?_
            refine b_icmp_eq rfl (fun c_58 => ?_) (fun c_58 => ?_)
            · refine b_iinc rfl rfl (Nat.le_of_ble_eq_true rfl) ?_
              refine b_goto rfl ?_
              exact b_lp (ih I' hf (by rw [hTe]; exact hS)) (le_e (le_e (le_e (le_q (by rw [hTe]) (le_q (by rw [nI_succ]) (le_n le_0)))))) rfl rfl
            · exact absurd rfl c_58
          | some k =>
            rw [ho] at hTe
            replace hTe : T (p + 1) = (sp_go (I (t + 2)) (I (t + 3)) (hs_lf I t sz) (I a 6) np (T p).1 p k, if sp_gf (I (t + 2)) (I (t + 3)) (hs_lf I t sz) (I a 6) np (T p).1 p k then (T p).2 ||| ((1 : Int32) <<< (nI p &&& 31)) else (T p).2) := hTe
            have hk := sp_pick_lt _ _ _ _ _ ho
            have hne : ¬ sp_enc (some k) = -1 := hi_ne (nI_toInt (by omega)) hi_tm1 (by omega)
            refine b_callV rfl rfl hk_Net_pick rfl rfl rfl (by first | rfl | assumption) rfl (Nat.le_of_ble_eq_true rfl) (q_Net_pick (nI p = odd) ht0 hn' hn8 hb) (Nat.le_of_ble_eq_true rfl) (fun r_50 D_50 q_50 => ?_)
            obtain ⟨rfl, hq5⟩ := q_50
            rw [et3, e1, ho] at hq5
            subst hq5
            refine b_istore rfl (Nat.le_of_ble_eq_true rfl) ?_
            refine b_iload rfl rfl ?_
            refine b_iconst rfl ?_
            refine b_icmp_eq rfl (fun c_58 => ?_) (fun c_58 => ?_)
            · exact absurd c_58 hne
            · refine b_aload_n rfl rfl ?_
              refine b_aload_n rfl rfl ?_
              refine b_iload rfl rfl ?_
              refine b_iload rfl rfl ?_
              refine b_callV rfl rfl hk_State_go rfl rfl rfl (by first | rfl | assumption) rfl (Nat.le_of_ble_eq_true rfl) (q_State_go ha0 ht0 hc' e44 hn4 (show p < 4 by omega) (show k < 8 by omega)) (Nat.le_of_ble_eq_true rfl) (fun r_67 D_67 q_67 => ?_)
              obtain ⟨hf6, hS6, hq6⟩ := q_67
              obtain ⟨I6, rfl, hI6⟩ := hf6.out
              rw [et2, et3, hlf, e0, hS] at hS6 hq6
              subst hq6
              refine b_if_eq rfl (fun c_70 => ?_) (fun c_70 => ?_)
              · refine b_iinc rfl rfl (Nat.le_of_ble_eq_true rfl) ?_
                refine b_goto rfl ?_
                first | exact b_lp (ih I6 (fun b hb => by rw [hI6 b hb]; exact hf b hb) (by rw [hTe]; exact hS6)) (le_e (le_e (le_e (le_q (by rw [hTe, if_neg (if01_z.mp c_70)]) (le_q (by rw [nI_succ]) (le_n le_0)))))) rfl rfl | exact b_lp (ih I6 (fun b hb => by rw [hI6 b hb]; exact hf b hb) (by rw [hTe]; exact hS6)) (le_e (le_e (le_e (le_q (by rw [hTe, if_pos (if01_n c_70)]) (le_q (by rw [nI_succ]) (le_n le_0)))))) rfl rfl
              · refine b_iload_n rfl rfl ?_
                refine b_iconst rfl ?_
                refine b_iload rfl rfl ?_
                refine b_ishl rfl ?_
                refine b_ior rfl ?_
                refine b_istore_n rfl (Nat.le_of_ble_eq_true rfl) ?_
                refine b_iinc rfl rfl (Nat.le_of_ble_eq_true rfl) ?_
                refine b_goto rfl ?_
                first | exact b_lp (ih I6 (fun b hb => by rw [hI6 b hb]; exact hf b hb) (by rw [hTe]; exact hS6)) (le_e (le_e (le_e (le_q (by rw [hTe, if_neg (if01_z.mp c_70)]) (le_q (by rw [nI_succ]) (le_n le_0)))))) rfl rfl | exact b_lp (ih I6 (fun b hb => by rw [hI6 b hb]; exact hf b hb) (by rw [hTe]; exact hS6)) (le_e (le_e (le_e (le_q (by rw [hTe, if_pos (if01_n c_70)]) (le_q (by rw [nI_succ]) (le_n le_0)))))) rfl rfl
        refine b_iload rfl rfl ?_
        refine b_aload_n rfl rfl ?_
        refine b_getI rfl (by first | rfl | assumption) rfl ?_
        refine b_icmp_ge rfl (fun c_11 => ?_) (fun c_11 => ?_)
        · exact absurd (by rw [← e44]; exact c_11) (nI_ge hp (by omega))
        · refine b_aload_n rfl rfl ?_
          refine b_iload rfl rfl ?_
          refine b_callV rfl rfl hk_State_isAwake rfl rfl rfl (by first | rfl | assumption) rfl (Nat.le_of_ble_eq_true rfl) (q_State_isAwake ha0 (show p < 4 by omega)) (Nat.le_of_ble_eq_true rfl) (fun r_17 D_17 q_17 => ?_)
          obtain ⟨rfl, hq1⟩ := q_17
          rw [w2, w3, if_pos haw] at hq1
          subst hq1
          refine b_if_ne rfl (fun c_20 => ?_) (fun c_20 => ?_)
          · refine b_aload_n rfl rfl ?_
            refine b_aload_n rfl rfl ?_
            refine b_getR rfl (by first | rfl | assumption) rfl (by assumption) ?_
            refine b_aload_n rfl rfl ?_
            refine b_getR rfl (by first | rfl | assumption) rfl (by assumption) ?_
            refine b_iload rfl rfl ?_
            refine b_iaload rfl (by first | rfl | assumption) (by first | assumption | exact nI_toInt (by omega) | exact hi_l0 | exact hi_l1 | exact hi_l2 | exact hi_l3 | exact hi_l4 | exact hi_l5 | exact hi_l6) (by omega) ?_
            refine b_iaload rfl (by first | rfl | assumption) hix (by omega) ?_
            refine b_iload rfl rfl ?_
            refine b_iload_n rfl rfl ?_
            refine b_icmp_ne rfl (fun c_42 => ?_) (fun c_42 => ?_)
            · refine b_iconst rfl ?_
              first | exact J50 _ (by rw [if_pos c_42]) | exact J50 _ (by rw [if_neg c_42])
            · refine b_iconst rfl ?_
              refine b_goto rfl ?_
              first | exact J50 _ (by rw [if_pos c_42]) | exact J50 _ (by rw [if_neg c_42])
          · exact absurd c_20 (by decide)
      · rw [sp_ps, if_neg haw] at hTe
        refine b_iload rfl rfl ?_
        refine b_aload_n rfl rfl ?_
        refine b_getI rfl (by first | rfl | assumption) rfl ?_
        refine b_icmp_ge rfl (fun c_11 => ?_) (fun c_11 => ?_)
        · exact absurd (by rw [← e44]; exact c_11) (nI_ge hp (by omega))
        · refine b_aload_n rfl rfl ?_
          refine b_iload rfl rfl ?_
          refine b_callV rfl rfl hk_State_isAwake rfl rfl rfl (by first | rfl | assumption) rfl (Nat.le_of_ble_eq_true rfl) (q_State_isAwake ha0 (show p < 4 by omega)) (Nat.le_of_ble_eq_true rfl) (fun r_17 D_17 q_17 => ?_)
          obtain ⟨rfl, hq1⟩ := q_17
          rw [w2, w3, if_neg haw] at hq1
          subst hq1
          refine b_if_ne rfl (fun c_20 => ?_) (fun c_20 => ?_)
          · exact absurd rfl c_20
          · refine b_goto rfl ?_
            refine b_iinc rfl rfl (Nat.le_of_ble_eq_true rfl) ?_
            refine b_goto rfl ?_
            exact b_lp (ih I' hf (by rw [hTe]; exact hS)) (le_e (le_e (le_e (le_q (by rw [hTe]) (le_q (by rw [nI_succ]) (le_n le_0)))))) rfl rfl
  refine b_iconst rfl ?_
  refine b_istore_n rfl (Nat.le_of_ble_eq_true rfl) ?_
  refine b_iconst rfl ?_
  refine b_istore rfl (Nat.le_of_ble_eq_true rfl) ?_
  refine b_lp (loop I (fun _ _ => rfl) (by rw [hT0])) (le_e (le_e (le_e (le_q (by rw [hT0]) (le_q (by rw [nI_0]) (le_n le_0)))))) rfl rfl
end HNhour
