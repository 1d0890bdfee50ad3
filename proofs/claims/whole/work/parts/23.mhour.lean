section HNmhour
variable {I : Nat → Nat → Int32} {J : Nat → Nat → Int64} {R : Nat → Nat → Option Nat}
theorem sp_lying_but (pl : Nat → Int32) (k : Int32) (np p : Nat) (h : np ≤ 4) (hp : p < 4) (hk : ¬ pl p = k) : sp_lyingAt pl k np &&& (((1 : Int32) <<< (nI p &&& 31)) ^^^ -1) = sp_lyingAt pl k np := by
  have key : ∀ b0 b1 b2 b3 : Bool, ∀ n : Fin 5, ∀ p : Fin 4, (if p.val = 0 then b0 else if p.val = 1 then b1 else if p.val = 2 then b2 else b3) = false → sp_up (fun p s => if (if p = 0 then b0 else if p = 1 then b1 else if p = 2 then b2 else b3) = true then s ||| ((1 : Int32) <<< (nI p &&& 31)) else s) (0 : Int32) n &&& (((1 : Int32) <<< (nI p &&& 31)) ^^^ -1) = sp_up (fun p s => if (if p = 0 then b0 else if p = 1 then b1 else if p = 2 then b2 else b3) = true then s ||| ((1 : Int32) <<< (nI p &&& 31)) else s) (0 : Int32) n := by decide +kernel
  have e2 : sp_lyingAt pl k np = sp_up (fun p s => if (if p = 0 then decide (pl 0 = k) else if p = 1 then decide (pl 1 = k) else if p = 2 then decide (pl 2 = k) else decide (pl 3 = k)) = true then s ||| ((1 : Int32) <<< (nI p &&& 31)) else s) (0 : Int32) np := by
    unfold sp_lyingAt
    refine sp_up_congr (fun p s hp => ?_)
    rcases (show p = 0 ∨ p = 1 ∨ p = 2 ∨ p = 3 by omega) with rfl | rfl | rfl | rfl <;> simp
  rw [e2]
  refine key _ _ _ _ ⟨np, by omega⟩ ⟨p, hp⟩ ?_
  rcases (show p = 0 ∨ p = 1 ∨ p = 2 ∨ p = 3 by omega) with rfl | rfl | rfl | rfl <;> simp [hk]
theorem sp_pick_bit (hd : Nat → Int32) (s : Int32) (least : Prop) [Decidable least] : ∀ n j, sp_pick hd s least n = some j → sp_bit s j
  | 0, j, h => by cases h
  | n + 1, j, h => by
    have ih := sp_pick_bit hd s least n
    have e2 : sp_pick hd s least (n + 1) = if sp_bit s n then (match sp_pick hd s least n with | none => some n | some j => if (if least then hd n < hd j else hd j < hd n) then some n else some j) else sp_pick hd s least n := rfl
    rw [e2] at h
    by_cases hb : sp_bit s n
    · rw [if_pos hb] at h
      cases ho : sp_pick hd s least n with
      | none => rw [ho] at h; rw [← Option.some.inj h]; exact hb
      | some i =>
        rw [ho] at h
        by_cases hc : (if least then hd n < hd i else hd i < hd n)
        · simp only [if_pos hc] at h; rw [← Option.some.inj h]; exact hb
        · simp only [if_neg hc] at h; rw [← Option.some.inj h]; exact ih i ho
    · rw [if_neg hb] at h; exact ih j h
/-- no string leads from a knot to itself -/
def hs_ns (s : Nat → Int32) : Prop := ∀ k, k < 8 → ¬ sp_bit (s k) k
/-- nothing but a state's own places changes -/
def hs_rb (b : Nat) (f g : Nat → Int32) : Prop := ∀ j, ¬ (b + 1 ≤ j ∧ j < b + 21) → g j = f j
theorem q_M_mayShift {b n p k : Nat} {x : Int32} {s w pl sh : Nat → Int32} (hM : hs_M R) (hV : hs_V I b s w pl sh) (hn8 : n ≤ 8) (hpl : hs_pl n pl) (hp : p < 4) (hx : x = nI b) : hn_F 2 hm_M_mayShift [.ref 188, .int x, .int (nI p), .int (nI k)] (I, J, R) (fun r D' => D' = (I, J, R) ∧ r = some (.int (if sp_awk w pl p ∧ sp_bit (s (pl p).toNatClampNeg) k then 1 else 0))) := by
  have hM0 := hM
  have hV0 := hV
  obtain ⟨m1, m4, m5, m6, m9, m10, m11, m12, m14, m15, m16, m17, m20, m21, m22, m23, m25, m27, m28, m29, m30, m31, m32⟩ := hM
  obtain ⟨hb, hVs, hVw, hVp, hVh⟩ := hV
  refine hn_F_of _ hk_M_mayShift rfl (Nat.le_of_ble_eq_true rfl) ?_
  by_cases ha : sp_awk w pl p
  · obtain ⟨q, hq, hpq⟩ : ∃ q, q < n ∧ pl p = nI q := by
      rcases hpl p hp with h | h
      · exact absurd h ha.1
      · exact h
    have hcl : (pl p).toNatClampNeg = q := by rw [hpq]; exact nI_clamp (by omega)
    rw [hcl]
    refine b_aload_n rfl rfl ?_
    refine b_iload_n rfl rfl ?_
    refine b_iload_n rfl rfl ?_
    refine b_callV rfl rfl hk_M_isAwake rfl rfl rfl (by first | rfl | assumption) rfl (Nat.le_of_ble_eq_true rfl) (q_M_isAwake hM0 hV0 hn8 hpl hp hx) (Nat.le_of_ble_eq_true rfl) (fun r_3 D_3 q_3 => ?_)
    obtain ⟨rfl, hq1⟩ := q_3
    rw [if_pos ha] at hq1
    subst hq1
    refine b_if_eq rfl (fun c_6 => ?_) (fun c_6 => ?_)
    · exact absurd c_6 (by decide)
    · refine b_aload_n rfl rfl ?_
      refine b_getR rfl (by first | rfl | assumption) rfl (by assumption) ?_
      refine b_iload_n rfl rfl ?_
      refine b_iconst rfl ?_
      refine b_iadd rfl ?_
      refine b_aload_n rfl rfl ?_
      refine b_getR rfl (by first | rfl | assumption) rfl (by assumption) ?_
      refine b_iload_n rfl rfl ?_
      refine b_bipush rfl ?_
      refine b_iadd rfl ?_
      refine b_iload_n rfl rfl ?_
      refine b_iadd rfl ?_
      refine b_iaload rfl (by first | rfl | assumption) (hi_ix (b + 13 + p) (by rw [nI_ad, nI_ad, hx]; rfl) (by omega)) (by omega) ?_
      rw [show I 204 (b + 13 + p) = nI q by rw [hVp p hp, hpq]]
      refine b_iadd rfl ?_
      refine b_iaload rfl (by first | rfl | assumption) (hi_ix (b + 1 + q) (by rw [nI_ad, nI_ad, hx]; rfl) (by omega)) (by omega) ?_
      rw [hVs q (by omega)]
      refine b_iload_n rfl rfl ?_
      refine b_ishr rfl ?_
      refine b_iconst rfl ?_
      refine b_iand rfl ?_
      refine b_iconst rfl ?_
      refine b_icmp_ne rfl (fun c_34 => ?_) (fun c_34 => ?_)
      · refine b_iconst rfl ?_
        exact b_ireturn rfl (by first | exact Or.inl rfl | exact Or.inr rfl | exact trivial) (⟨rfl, by first | rw [if_neg (fun z => c_34 ((hi_bit1 _).mpr z.2))] | rw [if_pos ⟨ha, (hi_bit1 _).mp c_34⟩]⟩)
      · refine b_iconst rfl ?_
        refine b_goto rfl ?_
        exact b_ireturn rfl (by first | exact Or.inl rfl | exact Or.inr rfl | exact trivial) (⟨rfl, by first | rw [if_neg (fun z => c_34 ((hi_bit1 _).mpr z.2))] | rw [if_pos ⟨ha, (hi_bit1 _).mp c_34⟩]⟩)
  · rw [if_neg (fun z => ha z.1)]
    refine b_aload_n rfl rfl ?_
    refine b_iload_n rfl rfl ?_
    refine b_iload_n rfl rfl ?_
    refine b_callV rfl rfl hk_M_isAwake rfl rfl rfl (by first | rfl | assumption) rfl (Nat.le_of_ble_eq_true rfl) (q_M_isAwake hM0 hV0 hn8 hpl hp hx) (Nat.le_of_ble_eq_true rfl) (fun r_3 D_3 q_3 => ?_)
    obtain ⟨rfl, hq1⟩ := q_3
    rw [if_neg ha] at hq1
    subst hq1
    refine b_if_eq rfl (fun c_6 => ?_) (fun c_6 => ?_)
    · refine b_iconst rfl ?_
      exact b_ireturn rfl (by first | exact Or.inl rfl | exact Or.inr rfl | exact trivial) (⟨rfl, rfl⟩)
    · exact absurd rfl c_6
abbrev hs_m3 (b : Nat) : Prop := b = 202 ∨ b = 203 ∨ b = 204
theorem q_M_shifts {b n np p k sz : Nat} {x : Int32} {kd hd ag cs s w pl sh : Nat → Int32} (hM : hs_M R) (hN : hs_MN I n np kd hd ag) (hL : hs_ML I cs sz) (hV : hs_V I b s w pl sh) (hp : p < 4) (hk : k < n) (hne : ¬ pl p = nI k) (hx : x = nI b) : hn_F 3 hm_M_shifts [.ref 188, .int x, .int (nI p), .int (nI k)] (I, J, R) (fun r D' => hs_fr I J R D' hs_m3 ∧ hs_rb b (I 204) (D'.1 204) ∧ hs_V D'.1 b s (sp_go kd hd (sp_lf cs sz) (I 188 26) np (w, pl, sh) p k).1 (sp_go kd hd (sp_lf cs sz) (I 188 26) np (w, pl, sh) p k).2.1 (sp_go kd hd (sp_lf cs sz) (I 188 26) np (w, pl, sh) p k).2.2 ∧ r = some (.int (if sp_gf kd hd (sp_lf cs sz) (I 188 26) np (w, pl, sh) p k then 1 else 0))) := by
  have hM0 := hM
  have hV0 := hV
  have hN0 := hN
  obtain ⟨m1, m4, m5, m6, m9, m10, m11, m12, m14, m15, m16, m17, m20, m21, m22, m23, m25, m27, m28, m29, m30, m31, m32⟩ := hM
  obtain ⟨hb, hVs, hVw, hVp, hVh⟩ := hV
  obtain ⟨hn, hn8, hnp, hn4, hkn⟩ := hN
  have hbut := sp_lying_but pl (nI k) np p hn4 hp hne
  refine hn_F_of _ hk_M_shifts rfl (Nat.le_of_ble_eq_true rfl) ?_
  obtain ⟨P, hPd⟩ : ∃ P : Option Value → hnD → Prop, P = (fun r D' => hs_fr I J R D' hs_m3 ∧ hs_rb b (I 204) (D'.1 204) ∧ hs_V D'.1 b s (sp_go kd hd (sp_lf cs sz) (I 188 26) np (w, pl, sh) p k).1 (sp_go kd hd (sp_lf cs sz) (I 188 26) np (w, pl, sh) p k).2.1 (sp_go kd hd (sp_lf cs sz) (I 188 26) np (w, pl, sh) p k).2.2 ∧ r = some (.int (if sp_gf kd hd (sp_lf cs sz) (I 188 26) np (w, pl, sh) p k then 1 else 0))) := ⟨_, rfl⟩
  rw [← hPd]
  refine b_aload_n rfl rfl ?_
  refine b_iload_n rfl rfl ?_
  refine b_aload_n rfl rfl ?_
  refine b_getR rfl (by first | rfl | assumption) rfl (by assumption) ?_
  refine b_iload_n rfl rfl ?_
  refine b_bipush rfl ?_
  refine b_iadd rfl ?_
  refine b_iload_n rfl rfl ?_
  refine b_iadd rfl ?_
  refine b_iaload rfl (by first | rfl | assumption) (hi_ix (b + 9 + p) (by rw [nI_ad, nI_ad, hx]; rfl) (by omega)) (by omega) ?_
  rw [hVw p hp]
  refine b_aload_n rfl rfl ?_
  refine b_getR rfl (by first | rfl | assumption) rfl (by assumption) ?_
  refine b_iload_n rfl rfl ?_
  refine b_bipush rfl ?_
  refine b_iadd rfl ?_
  refine b_iload_n rfl rfl ?_
  refine b_iadd rfl ?_
  refine b_iaload rfl (by first | rfl | assumption) (hi_ix (b + 17 + p) (by rw [nI_ad, nI_ad, hx]; rfl) (by omega)) (by omega) ?_
  rw [hVh p hp]
  refine b_aload_n rfl rfl ?_
  refine b_iload_n rfl rfl ?_
  refine b_iload_n rfl rfl ?_
  refine b_callV rfl rfl hk_M_lyingAt rfl rfl rfl (by first | rfl | assumption) rfl (Nat.le_of_ble_eq_true rfl) (q_M_lyingAt hM0 hV0 hnp hn4 hx) (Nat.le_of_ble_eq_true rfl) (fun r_27 D_27 q_27 => ?_)
  obtain ⟨rfl, rfl⟩ := q_27
  refine b_iconst rfl ?_
  refine b_iload_n rfl rfl ?_
  refine b_ishl rfl ?_
  refine b_iconst rfl ?_
  refine b_ixor rfl ?_
  refine b_iand rfl ?_
  rw [hbut]
  refine b_callS rfl rfl hk_M_bits rfl rfl rfl (Nat.le_of_ble_eq_true rfl) (q_M_bits) (Nat.le_of_ble_eq_true rfl) (fun r_36 D_36 q_36 => ?_)
  obtain ⟨rfl, rfl⟩ := q_36
  refine b_callV rfl rfl hk_M_willBy rfl rfl rfl (by first | rfl | assumption) rfl (Nat.le_of_ble_eq_true rfl) (q_M_willBy hM0 hN0 hL hk) (Nat.le_of_ble_eq_true rfl) (fun r_39 D_39 q_39 => ?_)
  obtain ⟨hf, hq⟩ := q_39
  obtain ⟨I1, rfl, hI1⟩ := hf.out
  obtain ⟨v, hv⟩ : ∃ v, v = sp_gw kd hd (sp_lf cs sz) (I 188 26) np (w, pl, sh) p k := ⟨_, rfl⟩
  rw [show sp_will kd hd (sp_lf cs sz) (I 188 26) k (w p) (sh p) (sp_pop (sp_lyingAt pl (nI k) np)) = v from hv.symm] at hq
  subst hq
  have e188 : I1 188 = I 188 := hI1 _ (by omega)
  have e204 : I1 204 = I 204 := hI1 _ (by omega)
  have hN1 : hs_MN I1 n np kd hd ag := by unfold hs_MN; rw [hI1 194 (by omega)]; exact hN0
  refine b_istore rfl (Nat.le_of_ble_eq_true rfl) ?_
  refine b_aload_n rfl rfl ?_
  refine b_iload_n rfl rfl ?_
  refine b_iload rfl rfl ?_
  refine b_callV rfl rfl hk_M_doesFall rfl rfl rfl (by first | rfl | assumption) rfl (Nat.le_of_ble_eq_true rfl) (q_M_doesFall (wl := v) hM0 hN1 hk) (Nat.le_of_ble_eq_true rfl) (fun r_48 D_48 q_48 => ?_)
  obtain ⟨rfl, hq⟩ := q_48
  rw [e188] at hq
  subst hq
  refine b_istore rfl (Nat.le_of_ble_eq_true rfl) ?_
  refine b_aload_n rfl rfl ?_
  refine b_getR rfl (by first | rfl | assumption) rfl (by assumption) ?_
  refine b_iload_n rfl rfl ?_
  refine b_bipush rfl ?_
  refine b_iadd rfl ?_
  refine b_iload_n rfl rfl ?_
  refine b_iadd rfl ?_
  refine b_iload rfl rfl ?_
  refine b_iastore rfl (by first | rfl | assumption) (hi_ix (b + 9 + p) (by rw [nI_ad, nI_ad, hx]; rfl) (by omega)) (by omega) ?_
  refine b_aload_n rfl rfl ?_
  refine b_getR rfl (by first | rfl | assumption) rfl (by assumption) ?_
  refine b_iload_n rfl rfl ?_
  refine b_bipush rfl ?_
  refine b_iadd rfl ?_
  refine b_iload_n rfl rfl ?_
  refine b_iadd rfl ?_
  refine b_iload rfl rfl ?_
  have fin : ∀ z : Int32, z = (if sp_fall kd hd (I 188 26) k v then -1 else nI k) → P (some (.int (if sp_fall kd hd (I 188 26) k v then 1 else 0))) (hn_u (hn_u (hn_u I1 204 (b + 9 + p) v) 204 (b + 13 + p) z) 204 (b + 17 + p) (hn_u (hn_u I1 204 (b + 9 + p) v) 204 (b + 13 + p) z 204 (b + 17 + p) + 1), J, R) := by
    intro z hz
    have hrow : ∀ j, hn_u (hn_u (hn_u I1 204 (b + 9 + p) v) 204 (b + 13 + p) z) 204 (b + 17 + p) (hn_u (hn_u I1 204 (b + 9 + p) v) 204 (b + 13 + p) z 204 (b + 17 + p) + 1) 204 j = if j = b + 17 + p then sh p + 1 else if j = b + 13 + p then z else if j = b + 9 + p then v else I 204 j := by
      intro j
      rw [hn_u_eq, hn_u_eq, hn_u_eq, e204]
      simp only [va_up]
      rw [if_neg (show ¬ b + 17 + p = b + 13 + p by omega), if_neg (show ¬ b + 17 + p = b + 9 + p by omega), hVh p hp]
    rw [hPd]
    refine ⟨⟨rfl, rfl, fun c hc => ?_⟩, fun j hj => ?_, ⟨hb, fun q hq => ?_, fun q hq => ?_, fun q hq => ?_, fun q hq => ?_⟩, by rw [hv]⟩
    · show hn_u _ 204 _ _ c = _
      rw [hn_u_ne _ _ _ (fun e => hc (Or.inr (Or.inr e))), hn_u_ne _ _ _ (fun e => hc (Or.inr (Or.inr e))), hn_u_ne _ _ _ (fun e => hc (Or.inr (Or.inr e))), hI1 c (by omega)]
    · refine (hrow j).trans ?_
      rw [if_neg (by omega), if_neg (by omega), if_neg (by omega)]
    · refine (hrow _).trans ?_
      rw [if_neg (by omega), if_neg (by omega), if_neg (by omega), hVs q hq]
    · refine (hrow _).trans ?_
      rw [if_neg (by omega), if_neg (by omega)]
      show _ = va_up w p _ q
      by_cases e : q = p
      · rw [e, if_pos rfl, va_up, if_pos rfl, hv]
      · rw [if_neg (by omega), va_up, if_neg e, hVw q hq]
    · refine (hrow _).trans ?_
      rw [if_neg (by omega)]
      show _ = va_up pl p _ q
      by_cases e : q = p
      · rw [e, if_pos rfl, va_up, if_pos rfl, hz, hv]
      · rw [if_neg (by omega), if_neg (by omega), va_up, if_neg e, hVp q hq]
    · refine (hrow _).trans ?_
      show _ = va_up sh p _ q
      by_cases e : q = p
      · rw [e, if_pos rfl, va_up, if_pos rfl]
      · rw [if_neg (by omega), if_neg (by omega), if_neg (by omega), va_up, if_neg e, hVh q hq]
  refine b_if_eq rfl (fun c_78 => ?_) (fun c_78 => ?_)
  · refine b_iload_n rfl rfl ?_
    refine b_iastore rfl (by first | rfl | assumption) (hi_ix (b + 13 + p) (by rw [nI_ad, nI_ad, hx]; rfl) (by omega)) (by omega) ?_
    refine b_aload_n rfl rfl ?_
    refine b_getR rfl (by first | rfl | assumption) rfl (by assumption) ?_
    refine b_iload_n rfl rfl ?_
    refine b_bipush rfl ?_
    refine b_iadd rfl ?_
    refine b_iload_n rfl rfl ?_
    refine b_iadd rfl ?_
    refine b_dup2_11 rfl rfl rfl ?_
    refine b_iaload rfl (by first | rfl | assumption) (hi_ix (b + 17 + p) (by rw [nI_ad, nI_ad, hx]; rfl) (by omega)) (by omega) ?_
    refine b_iconst rfl ?_
    refine b_iadd rfl ?_
    refine b_iastore rfl (by first | rfl | assumption) (hi_ix (b + 17 + p) (by rw [nI_ad, nI_ad, hx]; rfl) (by omega)) (by omega) ?_
    refine b_iload rfl rfl ?_
    exact b_ireturn rfl (if01 _) (by first | exact fin _ (by rw [if_neg (if01_z.mp c_78)]) | exact fin _ (by rw [if_pos (if01_n c_78)]))
  · refine b_iconst rfl ?_
    refine b_goto rfl ?_
    refine b_iastore rfl (by first | rfl | assumption) (hi_ix (b + 13 + p) (by rw [nI_ad, nI_ad, hx]; rfl) (by omega)) (by omega) ?_
    refine b_aload_n rfl rfl ?_
    refine b_getR rfl (by first | rfl | assumption) rfl (by assumption) ?_
    refine b_iload_n rfl rfl ?_
    refine b_bipush rfl ?_
    refine b_iadd rfl ?_
    refine b_iload_n rfl rfl ?_
    refine b_iadd rfl ?_
    refine b_dup2_11 rfl rfl rfl ?_
    refine b_iaload rfl (by first | rfl | assumption) (hi_ix (b + 17 + p) (by rw [nI_ad, nI_ad, hx]; rfl) (by omega)) (by omega) ?_
    refine b_iconst rfl ?_
    refine b_iadd rfl ?_
    refine b_iastore rfl (by first | rfl | assumption) (hi_ix (b + 17 + p) (by rw [nI_ad, nI_ad, hx]; rfl) (by omega)) (by omega) ?_
    refine b_iload rfl rfl ?_
    exact b_ireturn rfl (if01 _) (by first | exact fin _ (by rw [if_neg (if01_z.mp c_78)]) | exact fin _ (by rw [if_pos (if01_n c_78)]))
theorem q_M_passes {b n np sz : Nat} {x odd : Int32} {kd hd ag cs s w pl sh : Nat → Int32} (hM : hs_M R) (hN : hs_MN I n np kd hd ag) (hL : hs_ML I cs sz) (hV : hs_V I b s w pl sh) (hpl : hs_pl n pl) (hns : hs_ns s) (hx : x = nI b) : hn_F 4 hm_M_passes [.ref 188, .int x, .int odd] (I, J, R) (fun r D' => hs_fr I J R D' hs_m3 ∧ hs_rb b (va_up (I 204) b (I 204 b + 1)) (D'.1 204) ∧ hs_V D'.1 b s (sp_pass n kd hd (sp_lf cs sz) (I 188 26) s np odd (w, pl, sh)).1.1 (sp_pass n kd hd (sp_lf cs sz) (I 188 26) s np odd (w, pl, sh)).1.2.1 (sp_pass n kd hd (sp_lf cs sz) (I 188 26) s np odd (w, pl, sh)).1.2.2 ∧ r = some (.int (sp_pass n kd hd (sp_lf cs sz) (I 188 26) s np odd (w, pl, sh)).2)) := by
  have hM0 := hM
  have hV0 := hV
  have hN0 := hN
  obtain ⟨m1, m4, m5, m6, m9, m10, m11, m12, m14, m15, m16, m17, m20, m21, m22, m23, m25, m27, m28, m29, m30, m31, m32⟩ := hM
  obtain ⟨hb, hVs, hVw, hVp, hVh⟩ := hV
  obtain ⟨hn, hn8, hnp, hn4, hkn⟩ := hN
  refine hn_F_of _ hk_M_passes rfl (Nat.le_of_ble_eq_true rfl) ?_
  obtain ⟨P, hPd⟩ : ∃ P : Option Value → hnD → Prop, P = (fun r D' => hs_fr I J R D' hs_m3 ∧ hs_rb b (va_up (I 204) b (I 204 b + 1)) (D'.1 204) ∧ hs_V D'.1 b s (sp_pass n kd hd (sp_lf cs sz) (I 188 26) s np odd (w, pl, sh)).1.1 (sp_pass n kd hd (sp_lf cs sz) (I 188 26) s np odd (w, pl, sh)).1.2.1 (sp_pass n kd hd (sp_lf cs sz) (I 188 26) s np odd (w, pl, sh)).1.2.2 ∧ r = some (.int (sp_pass n kd hd (sp_lf cs sz) (I 188 26) s np odd (w, pl, sh)).2)) := ⟨_, rfl⟩
  rw [← hPd]
  obtain ⟨T, hT⟩ : ∃ T, T = sp_up (sp_ps n kd hd (sp_lf cs sz) (I 188 26) s np odd) ((w, pl, sh), 0) := ⟨_, rfl⟩
  have hTs : ∀ p, T (p + 1) = sp_ps n kd hd (sp_lf cs sz) (I 188 26) s np odd p (T p) := fun p => by rw [hT]; rfl
  have hT0 : T 0 = ((w, pl, sh), 0) := by rw [hT]; rfl
  have hTpl : ∀ p, hs_pl n (T p).1.2.1 := fun p => by rw [hT]; exact hs_pl_pass hpl p
  have hTn : T np = sp_pass n kd hd (sp_lf cs sz) (I 188 26) s np odd (w, pl, sh) := by rw [hT]; rfl
  have loop : ∀ (I' : Nat → Nat → Int32) (l : Value), (∀ b, ¬ hs_m3 b → I' b = I b) → hs_rb b (I 204) (I' 204) → hs_V I' b s (T 0).1.1 (T 0).1.2.1 (T 0).1.2.2 → hn_B 4 hm_M_passes P 5 [.ref 188, .int x, .int odd, .int (T 0).2, .int (nI 0), l] [] (I', J, R) := by
    refine sp_ind np (fun p => ∀ (I' : Nat → Nat → Int32) (l : Value), (∀ b, ¬ hs_m3 b → I' b = I b) → hs_rb b (I 204) (I' 204) → hs_V I' b s (T p).1.1 (T p).1.2.1 (T p).1.2.2 → hn_B 4 hm_M_passes P 5 [.ref 188, .int x, .int odd, .int (T p).2, .int (nI p), l] [] (I', J, R)) ?_ ?_
    · intro I' l hf hrb hV'
      have hnp' : I' 194 3 = nI np := by rw [hf 194 (by omega)]; exact hnp
      have fin : P (some (.int (T np).2)) (hn_u I' 204 b (I' 204 b + 1), J, R) := by
        have hrow : ∀ j, hn_u I' 204 b (I' 204 b + 1) 204 j = if j = b then I 204 b + 1 else I' 204 j := by
          intro j
          rw [hn_u_eq, hrb b (by omega)]
          simp only [va_up]
        obtain ⟨hb', hVs', hVw', hVp', hVh'⟩ := hV'
        rw [hPd, hTn] at *
        refine ⟨⟨rfl, rfl, fun c hc => ?_⟩, fun j hj => ?_, ⟨hb, fun q hq => ?_, fun q hq => ?_, fun q hq => ?_, fun q hq => ?_⟩, rfl⟩
        · show hn_u I' 204 _ _ c = I c
          rw [hn_u_ne _ _ _ (fun e => hc (Or.inr (Or.inr e)))]
          exact hf c hc
        · refine (hrow j).trans ?_
          simp only [va_up]
          by_cases e : j = b
          · rw [if_pos e, if_pos e]
          · rw [if_neg e, if_neg e, hrb j hj]
        · refine (hrow _).trans ?_
          rw [if_neg (by omega), hVs' q hq]
        · refine (hrow _).trans ?_
          rw [if_neg (by omega), hVw' q hq]
        · refine (hrow _).trans ?_
          rw [if_neg (by omega), hVp' q hq]
        · refine (hrow _).trans ?_
          rw [if_neg (by omega), hVh' q hq]
      refine b_iload rfl rfl ?_
      refine b_aload_n rfl rfl ?_
      refine b_callV rfl rfl hk_M_persons rfl rfl rfl (by first | rfl | assumption) rfl (Nat.le_of_ble_eq_true rfl) (q_M_persons hM0 hnp') (Nat.le_of_ble_eq_true rfl) (fun r_8 D_8 q_8 => ?_)
      obtain ⟨rfl, rfl⟩ := q_8
      refine b_icmp_ge rfl (fun c_11 => ?_) (fun c_11 => ?_)
      · refine b_aload_n rfl rfl ?_
        refine b_getR rfl (by first | rfl | assumption) rfl (by assumption) ?_
        refine b_iload_n rfl rfl ?_
        refine b_iconst rfl ?_
        refine b_iadd rfl ?_
        refine b_dup2_11 rfl rfl rfl ?_
        refine b_iaload rfl (by first | rfl | assumption) (hi_ix b (by rw [hx, Int32.add_zero]) (by omega)) (by omega) ?_
        refine b_iconst rfl ?_
        refine b_iadd rfl ?_
        refine b_iastore rfl (by first | rfl | assumption) (hi_ix b (by rw [hx, Int32.add_zero]) (by omega)) (by omega) ?_
        refine b_iload_n rfl rfl ?_
        exact b_ireturn rfl trivial (fin)
      · exact absurd (nI_le (Nat.le_refl _) (by omega)) c_11
    · intro p hp ih I' l hf hrb hV'
      have hN' : hs_MN I' n np kd hd ag := by unfold hs_MN; rw [hf 194 (by omega)]; exact hN0
      have hL' : hs_ML I' cs sz := by unfold hs_ML; rw [hf 194 (by omega), hf 195 (by omega), hf 196 (by omega)]; exact hL
      have hnp' := hN'.2.2.1
      have e188 : I' 188 = I 188 := hf _ (by omega)
      have hTe := hTs p
      have hplp := hTpl p p (by omega)
      have hpl' := hTpl p
      have hV'' := hV'
      obtain ⟨hb', hVs', hVw', hVp', hVh'⟩ := hV'
      by_cases haw : sp_awk (T p).1.1 (T p).1.2.1 p
      · obtain ⟨q, hq, hpq⟩ : ∃ q, q < n ∧ (T p).1.2.1 p = nI q := by
          rcases hplp with h | h
          · exact absurd h haw.1
          · exact h
        have hcl : ((T p).1.2.1 p).toNatClampNeg = q := by rw [hpq]; exact nI_clamp (by omega)
        have hVpq : I' 204 (b + 13 + p) = nI q := by rw [hVp' p (by omega), hpq]
        rw [sp_ps, if_pos haw, hcl] at hTe
        have J57 : ∀ b' : Int32, b' = (if nI p = odd then 1 else 0) → hn_B 4 hm_M_passes P 57 [.ref 188, .int x, .int odd, .int (T p).2, .int (nI p), l] [.int b', .int (s q), .ref 188] (I', J, R) := by
          intro b' hb2
          cases ho : sp_pick hd (s q) (nI p = odd) n with
          | none =>
            rw [ho] at hTe
            refine b_callV rfl rfl hk_M_nextOf rfl rfl rfl (by first | rfl | assumption) rfl (Nat.le_of_ble_eq_true rfl) (q_M_nextOf (nI p = odd) hM0 hN' hb2) (Nat.le_of_ble_eq_true rfl) (fun r_57 D_57 q_57 => ?_)
            obtain ⟨rfl, hq5⟩ := q_57
            rw [ho] at hq5
            subst hq5
            refine b_goto rfl ?_
            refine b_istore rfl (Nat.le_of_ble_eq_true rfl) ?_
            refine b_iload_n rfl rfl ?_
            refine b_iload rfl rfl ?_
            refine b_if_lt rfl (fun c_69 => ?_) (fun c_69 => ?_)
            · refine b_iconst rfl ?_
              refine b_ior rfl ?_
              refine b_istore_n rfl (Nat.le_of_ble_eq_true rfl) ?_
              refine b_iinc rfl rfl (Nat.le_of_ble_eq_true rfl) ?_
              refine b_goto rfl ?_
              exact b_lp (ih I' _ hf hrb (by rw [hTe]; exact hV'')) (le_e (le_e (le_e (le_q (by rw [hTe, Int32.or_zero]) (le_q (by rw [nI_succ]) (le_e le_0)))))) rfl rfl
            · exact absurd (show (-1 : Int32) < 0 by decide) c_69
          | some k =>
            rw [ho] at hTe
            replace hTe : T (p + 1) = (sp_go kd hd (sp_lf cs sz) (I 188 26) np (T p).1 p k, if sp_gf kd hd (sp_lf cs sz) (I 188 26) np (T p).1 p k then (T p).2 ||| ((1 : Int32) <<< (nI p &&& 31)) else (T p).2) := hTe
            have hk := sp_pick_lt _ _ _ _ _ ho
            have hkb := sp_pick_bit _ _ _ _ _ ho
            have hnn : ¬ sp_enc (some k) < 0 := fun z => by have := (hi_lt (show (sp_enc (some k)).toInt = (k : Int) from nI_toInt (by omega)) hi_t0).mp z; omega
            have hnk : ¬ (T p).1.2.1 p = nI k := by
              intro e
              rw [hpq] at e
              have e2 := congrArg Int32.toInt e
              rw [nI_toInt (by omega), nI_toInt (by omega)] at e2
              have e3 : q = k := by omega
              rw [e3] at hkb
              exact hns k (by omega) hkb
            refine b_callV rfl rfl hk_M_nextOf rfl rfl rfl (by first | rfl | assumption) rfl (Nat.le_of_ble_eq_true rfl) (q_M_nextOf (nI p = odd) hM0 hN' hb2) (Nat.le_of_ble_eq_true rfl) (fun r_57 D_57 q_57 => ?_)
            obtain ⟨rfl, hq5⟩ := q_57
            rw [ho] at hq5
            subst hq5
            refine b_goto rfl ?_
            refine b_istore rfl (Nat.le_of_ble_eq_true rfl) ?_
            refine b_iload_n rfl rfl ?_
            refine b_iload rfl rfl ?_
            refine b_if_lt rfl (fun c_69 => ?_) (fun c_69 => ?_)
            · exact absurd c_69 hnn
            · refine b_aload_n rfl rfl ?_
              refine b_iload_n rfl rfl ?_
              refine b_iload rfl rfl ?_
              refine b_iload rfl rfl ?_
              refine b_callV rfl rfl hk_M_shifts rfl rfl rfl (by first | rfl | assumption) rfl (Nat.le_of_ble_eq_true rfl) (q_M_shifts hM0 hN' hL' hV'' (show p < 4 by omega) hk hnk hx) (Nat.le_of_ble_eq_true rfl) (fun r_78 D_78 q_78 => ?_)
              obtain ⟨hf6, hrb6, hV6, hq6⟩ := q_78
              obtain ⟨I6, rfl, hI6⟩ := hf6.out
              rw [e188] at hV6 hq6
              subst hq6
              refine b_if_eq rfl (fun c_81 => ?_) (fun c_81 => ?_)
              · refine b_iconst rfl ?_
                refine b_ior rfl ?_
                refine b_istore_n rfl (Nat.le_of_ble_eq_true rfl) ?_
                refine b_iinc rfl rfl (Nat.le_of_ble_eq_true rfl) ?_
                refine b_goto rfl ?_
                first | exact b_lp (ih I6 _ (fun c hc => by rw [hI6 c hc]; exact hf c hc) (fun j hj => (hrb6 j hj).trans (hrb j hj)) (by rw [hTe]; exact hV6)) (le_e (le_e (le_e (le_q (by rw [hTe]; simp only []; rw [if_neg (if01_z.mp c_81), Int32.or_zero]) (le_q (by rw [nI_succ]) (le_e le_0)))))) rfl rfl | exact b_lp (ih I6 _ (fun c hc => by rw [hI6 c hc]; exact hf c hc) (fun j hj => (hrb6 j hj).trans (hrb j hj)) (by rw [hTe]; exact hV6)) (le_e (le_e (le_e (le_q (by rw [hTe]; simp only []; rw [if_pos (if01_n c_81)]) (le_q (by rw [nI_succ]) (le_e le_0)))))) rfl rfl
              · refine b_iconst rfl ?_
                refine b_iload rfl rfl ?_
                refine b_ishl rfl ?_
                refine b_goto rfl ?_
                refine b_ior rfl ?_
                refine b_istore_n rfl (Nat.le_of_ble_eq_true rfl) ?_
                refine b_iinc rfl rfl (Nat.le_of_ble_eq_true rfl) ?_
                refine b_goto rfl ?_
                first | exact b_lp (ih I6 _ (fun c hc => by rw [hI6 c hc]; exact hf c hc) (fun j hj => (hrb6 j hj).trans (hrb j hj)) (by rw [hTe]; exact hV6)) (le_e (le_e (le_e (le_q (by rw [hTe]; simp only []; rw [if_neg (if01_z.mp c_81), Int32.or_zero]) (le_q (by rw [nI_succ]) (le_e le_0)))))) rfl rfl | exact b_lp (ih I6 _ (fun c hc => by rw [hI6 c hc]; exact hf c hc) (fun j hj => (hrb6 j hj).trans (hrb j hj)) (by rw [hTe]; exact hV6)) (le_e (le_e (le_e (le_q (by rw [hTe]; simp only []; rw [if_pos (if01_n c_81)]) (le_q (by rw [nI_succ]) (le_e le_0)))))) rfl rfl
        refine b_iload rfl rfl ?_
        refine b_aload_n rfl rfl ?_
        refine b_callV rfl rfl hk_M_persons rfl rfl rfl (by first | rfl | assumption) rfl (Nat.le_of_ble_eq_true rfl) (q_M_persons hM0 hnp') (Nat.le_of_ble_eq_true rfl) (fun r_8 D_8 q_8 => ?_)
        obtain ⟨rfl, rfl⟩ := q_8
        refine b_icmp_ge rfl (fun c_11 => ?_) (fun c_11 => ?_)
        · exact absurd c_11 (nI_ge hp (by omega))
        · refine b_aload_n rfl rfl ?_
          refine b_iload_n rfl rfl ?_
          refine b_iload rfl rfl ?_
          refine b_callV rfl rfl hk_M_isAwake rfl rfl rfl (by first | rfl | assumption) rfl (Nat.le_of_ble_eq_true rfl) (q_M_isAwake hM0 hV'' hn8 hpl' (show p < 4 by omega) hx) (Nat.le_of_ble_eq_true rfl) (fun r_18 D_18 q_18 => ?_)
          obtain ⟨rfl, hq1⟩ := q_18
          rw [if_pos haw] at hq1
          subst hq1
          refine b_if_eq rfl (fun c_21 => ?_) (fun c_21 => ?_)
          · exact absurd c_21 (by decide)
          · refine b_aload_n rfl rfl ?_
            refine b_aload_n rfl rfl ?_
            refine b_getR rfl (by first | rfl | assumption) rfl (by assumption) ?_
            refine b_iload_n rfl rfl ?_
            refine b_iconst rfl ?_
            refine b_iadd rfl ?_
            refine b_aload_n rfl rfl ?_
            refine b_getR rfl (by first | rfl | assumption) rfl (by assumption) ?_
            refine b_iload_n rfl rfl ?_
            refine b_bipush rfl ?_
            refine b_iadd rfl ?_
            refine b_iload rfl rfl ?_
            refine b_iadd rfl ?_
            refine b_iaload rfl (by first | rfl | assumption) (hi_ix (b + 13 + p) (by rw [nI_ad, nI_ad, hx]; rfl) (by omega)) (by omega) ?_
            rw [hVpq]
            refine b_iadd rfl ?_
            refine b_iaload rfl (by first | rfl | assumption) (hi_ix (b + 1 + q) (by rw [nI_ad, nI_ad, hx]; rfl) (by omega)) (by omega) ?_
            rw [hVs' q (by omega)]
            refine b_iload rfl rfl ?_
            refine b_iload_n rfl rfl ?_
            refine b_icmp_ne rfl (fun c_49 => ?_) (fun c_49 => ?_)
            · refine b_iconst rfl ?_
              first | exact J57 _ (by rw [if_pos c_49]) | exact J57 _ (by rw [if_neg c_49])
            · refine b_iconst rfl ?_
              refine b_goto rfl ?_
              first | exact J57 _ (by rw [if_pos c_49]) | exact J57 _ (by rw [if_neg c_49])
      · rw [sp_ps, if_neg haw] at hTe
        refine b_iload rfl rfl ?_
        refine b_aload_n rfl rfl ?_
        refine b_callV rfl rfl hk_M_persons rfl rfl rfl (by first | rfl | assumption) rfl (Nat.le_of_ble_eq_true rfl) (q_M_persons hM0 hnp') (Nat.le_of_ble_eq_true rfl) (fun r_8 D_8 q_8 => ?_)
        obtain ⟨rfl, rfl⟩ := q_8
        refine b_icmp_ge rfl (fun c_11 => ?_) (fun c_11 => ?_)
        · exact absurd c_11 (nI_ge hp (by omega))
        · refine b_aload_n rfl rfl ?_
          refine b_iload_n rfl rfl ?_
          refine b_iload rfl rfl ?_
          refine b_callV rfl rfl hk_M_isAwake rfl rfl rfl (by first | rfl | assumption) rfl (Nat.le_of_ble_eq_true rfl) (q_M_isAwake hM0 hV'' hn8 hpl' (show p < 4 by omega) hx) (Nat.le_of_ble_eq_true rfl) (fun r_18 D_18 q_18 => ?_)
          obtain ⟨rfl, hq1⟩ := q_18
          rw [if_neg haw] at hq1
          subst hq1
          refine b_if_eq rfl (fun c_21 => ?_) (fun c_21 => ?_)
          · refine b_iconst rfl ?_
            refine b_istore rfl (Nat.le_of_ble_eq_true rfl) ?_
            refine b_iload_n rfl rfl ?_
            refine b_iload rfl rfl ?_
            refine b_if_lt rfl (fun c_69 => ?_) (fun c_69 => ?_)
            · refine b_iconst rfl ?_
              refine b_ior rfl ?_
              refine b_istore_n rfl (Nat.le_of_ble_eq_true rfl) ?_
              refine b_iinc rfl rfl (Nat.le_of_ble_eq_true rfl) ?_
              refine b_goto rfl ?_
              exact b_lp (ih I' _ hf hrb (by rw [hTe]; exact hV'')) (le_e (le_e (le_e (le_q (by rw [hTe, Int32.or_zero]) (le_q (by rw [nI_succ]) (le_e le_0)))))) rfl rfl
            · exact absurd (show (-1 : Int32) < 0 by decide) c_69
          · exact absurd rfl c_21
  refine b_iconst rfl ?_
  refine b_istore_n rfl (Nat.le_of_ble_eq_true rfl) ?_
  refine b_iconst rfl ?_
  refine b_istore rfl (Nat.le_of_ble_eq_true rfl) ?_
  refine b_lp (loop I .null (fun _ _ => rfl) (fun _ _ => rfl) (by rw [hT0]; exact hV0)) (le_e (le_e (le_e (le_q (by rw [hT0]) (le_q (by rw [nI_0]) (le_n le_0)))))) rfl rfl
end HNmhour
