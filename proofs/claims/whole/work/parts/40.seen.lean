section HNseen
variable {I I' : Nat → Nat → Int32} {J J' : Nat → Nat → Int64} {R : Nat → Nat → Option Nat} {t : Nat} {N : sp_N} {Q Q' : sp_Q} {U : sp_U}
/-- what is seen: from where, how many, knots, hours, whether there -/
abbrev sp_V : Type := Int32 × Nat × (Nat → Int32) × (Nat → Int32) × (Nat → Int32)
def hs_Se (R : Nat → Nat → Option Nat) (a : Nat) : Prop := 135 ≤ a ∧ a ≤ 174 ∧ hn_kind a = (0, 6) ∧ hn_kind (a + 1) = (1, 8) ∧ hn_kind (a + 2) = (1, 8) ∧ hn_kind (a + 3) = (3, 8) ∧ R a 2 = some (a + 1) ∧ R a 3 = some (a + 2) ∧ R a 4 = some (a + 3)
theorem hs_Se_of {a : Nat} (hR : hs_refs R) (ha : a ∈ [135, 147, 156, 165, 174]) : hs_Se R a := by
  have key : ∀ a, a ∈ [135, 147, 156, 165, 174] → (135 ≤ a ∧ a ≤ 174 ∧ hn_kind a = (0, 6) ∧ hn_kind (a + 1) = (1, 8) ∧ hn_kind (a + 2) = (1, 8) ∧ hn_kind (a + 3) = (3, 8)) ∧ (a, 2, a + 1) ∈ hn_reft ∧ (a, 3, a + 2) ∈ hn_reft ∧ (a, 4, a + 3) ∈ hn_reft := by decide +kernel
  obtain ⟨⟨h1, h2, h3, h4, h5, h6⟩, g1, g2, g3⟩ := key a ha
  exact ⟨h1, h2, h3, h4, h5, h6, hR _ g1, hR _ g2, hR _ g3⟩
def hs_Vx (I : Nat → Nat → Int32) (a : Nat) (V : sp_V) : Prop := I a 1 = nI V.2.1 ∧ V.2.1 ≤ 8 ∧ (0 < V.2.1 → I a 0 = V.1) ∧ (∀ i, i < V.2.1 → I (a + 1) i = V.2.2.1 i ∧ I (a + 2) i = V.2.2.2.1 i ∧ I (a + 3) i = V.2.2.2.2 i) ∧ ∀ i, i < 8 → I (a + 3) i = 0 ∨ I (a + 3) i = 1
def hs_Vm (I : Nat → Nat → Int32) (b : Nat) (V : sp_V) : Prop := I 204 (b + 21) = nI V.2.1 ∧ V.2.1 ≤ 8 ∧ (0 < V.2.1 → I 204 (b + 22) = V.1) ∧ ∀ i, i < V.2.1 → I 204 (b + 23 + 3 * i) = V.2.2.1 i ∧ I 204 (b + 24 + 3 * i) = V.2.2.2.1 i ∧ I 204 (b + 25 + 3 * i) = V.2.2.2.2 i
/-- one more is seen -/
def sp_see (V : sp_V) (x y z b : Int32) : sp_V × Int32 := if V.1 = x ∧ V.2.1 = 8 then (V, 0) else ((x, (if V.1 = x then V.2.1 else 0) + 1, va_up V.2.2.1 (if V.1 = x then V.2.1 else 0) y, va_up V.2.2.2.1 (if V.1 = x then V.2.1 else 0) z, va_up V.2.2.2.2 (if V.1 = x then V.2.1 else 0) b), 1)
theorem seen_new {a m : Nat} {V : sp_V} {x y z b v : Int32} {I1 I2 : Nat → Nat → Int32} (a1 : 135 ≤ a) (hI2 : I2 = hn_u (hn_u (hn_u (hn_u I1 a 0 x) (a + 1) m y) (a + 2) m z) (a + 3) m b) (hm8 : m < 8) (hf : ∀ c, c ≠ a → I1 c = I c) (hmi : ∀ i, i < m → V.1 = x ∧ i < V.2.1) (v4 : ∀ i, i < V.2.1 → I (a + 1) i = V.2.2.1 i ∧ I (a + 2) i = V.2.2.2.1 i ∧ I (a + 3) i = V.2.2.2.2 i) (v5 : ∀ i, i < 8 → I (a + 3) i = 0 ∨ I (a + 3) i = 1) (hb : b = 0 ∨ b = 1) (hv : v = nI (m + 1)) : hs_Vx (hn_u I2 a 1 v) a (x, m + 1, va_up V.2.2.1 m y, va_up V.2.2.2.1 m z, va_up V.2.2.2.2 m b) := by
  have e0 : ∀ c, c ≠ a → hn_u I2 a 1 v c = I2 c := fun c hc => hn_u_ne _ _ _ hc
  have e1 : I2 (a + 1) = va_up (I (a + 1)) m y := by rw [hI2, hn_u_ne _ _ _ (by omega), hn_u_ne _ _ _ (by omega), hn_u_eq, hn_u_ne _ _ _ (by omega), hf _ (by omega)]
  have e2 : I2 (a + 2) = va_up (I (a + 2)) m z := by rw [hI2, hn_u_ne _ _ _ (by omega), hn_u_eq, hn_u_ne _ _ _ (by omega), hn_u_ne _ _ _ (by omega), hf _ (by omega)]
  have e3 : I2 (a + 3) = va_up (I (a + 3)) m b := by rw [hI2, hn_u_eq, hn_u_ne _ _ _ (by omega), hn_u_ne _ _ _ (by omega), hn_u_ne _ _ _ (by omega), hf _ (by omega)]
  refine ⟨by rw [hn_u_eq, va_up, if_pos rfl]; exact hv, (show m + 1 ≤ 8 by omega), fun _ => ?_, fun i hi => ?_, fun i hi => ?_⟩
  · rw [hn_u_eq, va_up, if_neg (by omega), hI2, hn_u_ne _ _ _ (by omega), hn_u_ne _ _ _ (by omega), hn_u_ne _ _ _ (by omega), hn_u_eq, va_up, if_pos rfl]
  · rw [e0 (a + 1) (by omega), e0 (a + 2) (by omega), e0 (a + 3) (by omega), e1, e2, e3]
    show va_up _ m y i = va_up _ m y i ∧ va_up _ m z i = va_up _ m z i ∧ va_up _ m b i = va_up _ m b i
    simp only [va_up]
    by_cases h : i = m
    · rw [if_pos h, if_pos h, if_pos h, if_pos h, if_pos h, if_pos h]; exact ⟨rfl, rfl, rfl⟩
    · simp only at hi
      rw [if_neg h, if_neg h, if_neg h, if_neg h, if_neg h, if_neg h]; exact v4 i (hmi i (by omega)).2
  · rw [e0 (a + 3) (by omega), e3]
    unfold va_up
    by_cases h : i = m
    · rw [if_pos h]; exact hb
    · rw [if_neg h]; exact v5 i hi
theorem q_Seen_add {a : Nat} {V : sp_V} {x y z b : Int32} (ha : hs_Se R a) (hV : hs_Vx I a V) (hb : b = 0 ∨ b = 1) : hn_F 0 hm_Seen_add [.ref a, .int x, .int y, .int z, .int b] (I, J, R) (fun r D' => hs_fr I J R D' (fun c => a ≤ c ∧ c ≤ a + 3) ∧ hs_Vx D'.1 a (sp_see V x y z b).1 ∧ r = some (.int (sp_see V x y z b).2)) := by
  obtain ⟨a1, a2, k0, k1, k2, k3, r2, r3, r4⟩ := ha
  obtain ⟨v1, v2, v3, v4, v5⟩ := hV
  refine hn_F_of _ hk_Seen_add rfl (Nat.le_of_ble_eq_true rfl) ?_
  obtain ⟨P, hPd⟩ : ∃ P : Option Value → hnD → Prop, P = (fun r D' => hs_fr I J R D' (fun c => a ≤ c ∧ c ≤ a + 3) ∧ hs_Vx D'.1 a (sp_see V x y z b).1 ∧ r = some (.int (sp_see V x y z b).2)) := ⟨_, rfl⟩
  rw [← hPd]
  have L13 : ∀ (I1 : Nat → Nat → Int32) (m : Nat), m = (if V.1 = x then V.2.1 else 0) → I1 a 1 = nI m → I1 a 0 = I a 0 → (∀ c, c ≠ a → I1 c = I c) → hn_B 0 hm_Seen_add P 13 [.ref a, .int x, .int y, .int z, .int b] [] (I1, J, R) := by
    intro I1 m hm h1 h0 hf
    by_cases h8 : m = 8
    · have hc : V.1 = x ∧ V.2.1 = 8 := by
        by_cases e : V.1 = x
        · rw [if_pos e] at hm; exact ⟨e, by omega⟩
        · rw [if_neg e] at hm; omega
      refine b_aload_n rfl rfl ?_
      refine b_getI rfl (by first | rfl | assumption) rfl ?_
      refine b_bipush rfl ?_
      rw [h1, h8]
      refine b_icmp_lt rfl (fun c_19 => ?_) (fun c_19 => ?_)
      · exact absurd c_19 (by decide)
      · refine b_iconst rfl ?_
        exact b_ireturn rfl (by first | exact Or.inl rfl | exact Or.inr rfl | exact trivial) ((by rw [hPd, sp_see, if_pos hc]; exact ⟨⟨rfl, rfl, fun c hc => hf c (fun e => hc (by omega))⟩, ⟨by rw [hc.2]; exact h1.trans (by rw [h8]), v2, fun h => h0.trans (v3 h), fun i hi => by show I1 (a + 1) i = _ ∧ I1 (a + 2) i = _ ∧ I1 (a + 3) i = _; rw [hf (a + 1) (by omega), hf (a + 2) (by omega), hf (a + 3) (by omega)]; exact v4 i hi, fun i hi => by show I1 (a + 3) i = 0 ∨ I1 (a + 3) i = 1; rw [hf (a + 3) (by omega)]; exact v5 i hi⟩, rfl⟩))
    · have hc : ¬ (V.1 = x ∧ V.2.1 = 8) := by
        rintro ⟨e1, e2⟩
        rw [if_pos e1] at hm; omega
      have hm8 : m < 8 := by
        by_cases e : V.1 = x
        · rw [if_pos e] at hm; omega
        · rw [if_neg e] at hm; omega
      have hmi : ∀ i, i < m → V.1 = x ∧ i < V.2.1 := by
        intro i hi
        by_cases e : V.1 = x
        · rw [if_pos e] at hm; exact ⟨e, by omega⟩
        · rw [if_neg e] at hm; omega
      obtain ⟨I2, hI2⟩ : ∃ w, w = hn_u (hn_u (hn_u (hn_u I1 a 0 x) (a + 1) m y) (a + 2) m z) (a + 3) m b := ⟨_, rfl⟩
      have e2 : I2 a 1 = nI m := by rw [hI2, hn_u_ne _ _ _ (by omega), hn_u_ne _ _ _ (by omega), hn_u_ne _ _ _ (by omega), hn_u_eq, va_up, if_neg (by omega)]; exact h1
      refine b_aload_n rfl rfl ?_
      refine b_getI rfl (by first | rfl | assumption) rfl ?_
      refine b_bipush rfl ?_
      rw [h1]
      refine b_icmp_lt rfl (fun c_19 => ?_) (fun c_19 => ?_)
      · refine b_aload_n rfl rfl ?_
        refine b_iload_n rfl rfl ?_
        refine b_putI rfl (by first | rfl | assumption) rfl rfl ⟨rfl, rfl⟩ ?_
        refine b_aload_n rfl rfl ?_
        refine b_getR rfl (by first | rfl | assumption) rfl (by assumption) ?_
        refine b_aload_n rfl rfl ?_
        refine b_getI rfl (by first | rfl | assumption) rfl ?_
        rw [hn_u_eq, va_up, if_neg (by omega), h1]
        refine b_iload_n rfl rfl ?_
        refine b_iastore rfl (by first | rfl | assumption) (nI_toInt (by omega)) (by omega) ?_
        refine b_aload_n rfl rfl ?_
        refine b_getR rfl (by first | rfl | assumption) rfl (by assumption) ?_
        refine b_aload_n rfl rfl ?_
        refine b_getI rfl (by first | rfl | assumption) rfl ?_
        rw [hn_u_ne _ _ _ (show a ≠ a + 1 by omega), hn_u_eq, va_up, if_neg (by omega), h1]
        refine b_iload_n rfl rfl ?_
        refine b_iastore rfl (by first | rfl | assumption) (nI_toInt (by omega)) (by omega) ?_
        refine b_aload_n rfl rfl ?_
        refine b_getR rfl (by first | rfl | assumption) rfl (by assumption) ?_
        refine b_aload_n rfl rfl ?_
        refine b_getI rfl (by first | rfl | assumption) rfl ?_
        rw [hn_u_ne _ _ _ (show a ≠ a + 2 by omega), hn_u_ne _ _ _ (show a ≠ a + 1 by omega), hn_u_eq, va_up, if_neg (by omega), h1]
        refine b_iload rfl rfl ?_
        refine b_bastore rfl (by first | rfl | assumption) (nI_toInt (by omega)) (by omega) (by rcases hb with rfl | rfl <;> rfl) ?_
        rw [← hI2]
        refine b_aload_n rfl rfl ?_
        refine b_dup rfl rfl ?_
        refine b_getI rfl (by first | rfl | assumption) rfl ?_
        refine b_iconst rfl ?_
        rw [e2]
        refine b_iadd rfl ?_
        refine b_putI rfl (by first | rfl | assumption) rfl rfl ⟨rfl, rfl⟩ ?_
        refine b_iconst rfl ?_
        exact b_ireturn rfl (by first | exact Or.inl rfl | exact Or.inr rfl | exact trivial) ((by rw [hPd, sp_see, if_neg hc, ← hm]; exact ⟨⟨rfl, rfl, fun c hc => by show hn_u I2 a 1 _ c = I c; rw [hn_u_ne _ _ _ (by omega), hI2, hn_u_ne _ _ _ (by omega), hn_u_ne _ _ _ (by omega), hn_u_ne _ _ _ (by omega), hn_u_ne _ _ _ (by omega), hf c (by omega)]⟩, seen_new a1 hI2 hm8 hf hmi v4 v5 hb (@nI_succ m).symm, rfl⟩))
      · exact absurd (show nI m < nI 8 from hi_nlt (by omega) (by omega)) c_19
  by_cases e : V.1 = x
  · by_cases hm0 : V.2.1 = 0
    · refine b_iload_n rfl rfl ?_
      refine b_aload_n rfl rfl ?_
      refine b_getI rfl (by first | rfl | assumption) rfl ?_
      refine b_icmp_eq rfl (fun c_5 => ?_) (fun c_5 => ?_)
      · first | exact L13 I 0 (by rw [if_pos e, hm0]) (by rw [v1, hm0]) rfl (fun _ _ => rfl) | exact L13 (hn_u I a 1 0) 0 (by rw [if_pos e, hm0]) (by rw [hn_u_eq, va_up, if_pos rfl]; rfl) (by rw [hn_u_eq, va_up, if_neg (by omega)]) (fun c hc => hn_u_ne _ _ _ hc)
      · refine b_aload_n rfl rfl ?_
        refine b_iconst rfl ?_
        refine b_putI rfl (by first | rfl | assumption) rfl rfl ⟨rfl, rfl⟩ ?_
        first | exact L13 I 0 (by rw [if_pos e, hm0]) (by rw [v1, hm0]) rfl (fun _ _ => rfl) | exact L13 (hn_u I a 1 0) 0 (by rw [if_pos e, hm0]) (by rw [hn_u_eq, va_up, if_pos rfl]; rfl) (by rw [hn_u_eq, va_up, if_neg (by omega)]) (fun c hc => hn_u_ne _ _ _ hc)
    · refine b_iload_n rfl rfl ?_
      refine b_aload_n rfl rfl ?_
      refine b_getI rfl (by first | rfl | assumption) rfl ?_
      refine b_icmp_eq rfl (fun c_5 => ?_) (fun c_5 => ?_)
      · exact L13 I V.2.1 (by rw [if_pos e]) v1 rfl (fun _ _ => rfl)
      · exact absurd (e.symm.trans (v3 (by omega)).symm) c_5
  · by_cases hm0 : V.2.1 = 0
    · refine b_iload_n rfl rfl ?_
      refine b_aload_n rfl rfl ?_
      refine b_getI rfl (by first | rfl | assumption) rfl ?_
      refine b_icmp_eq rfl (fun c_5 => ?_) (fun c_5 => ?_)
      · first | exact L13 I 0 (by rw [if_neg e]) (by rw [v1, hm0]) rfl (fun _ _ => rfl) | exact L13 (hn_u I a 1 0) 0 (by rw [if_neg e]) (by rw [hn_u_eq, va_up, if_pos rfl]; rfl) (by rw [hn_u_eq, va_up, if_neg (by omega)]) (fun c hc => hn_u_ne _ _ _ hc)
      · refine b_aload_n rfl rfl ?_
        refine b_iconst rfl ?_
        refine b_putI rfl (by first | rfl | assumption) rfl rfl ⟨rfl, rfl⟩ ?_
        first | exact L13 I 0 (by rw [if_neg e]) (by rw [v1, hm0]) rfl (fun _ _ => rfl) | exact L13 (hn_u I a 1 0) 0 (by rw [if_neg e]) (by rw [hn_u_eq, va_up, if_pos rfl]; rfl) (by rw [hn_u_eq, va_up, if_neg (by omega)]) (fun c hc => hn_u_ne _ _ _ hc)
    · refine b_iload_n rfl rfl ?_
      refine b_aload_n rfl rfl ?_
      refine b_getI rfl (by first | rfl | assumption) rfl ?_
      refine b_icmp_eq rfl (fun c_5 => ?_) (fun c_5 => ?_)
      · exact absurd ((v3 (by omega)).symm.trans c_5.symm) e
      · refine b_aload_n rfl rfl ?_
        refine b_iconst rfl ?_
        refine b_putI rfl (by first | rfl | assumption) rfl rfl ⟨rfl, rfl⟩ ?_
        exact L13 (hn_u I a 1 0) 0 (by rw [if_neg e]) (by rw [hn_u_eq, va_up, if_pos rfl]; rfl) (by rw [hn_u_eq, va_up, if_neg (by omega)]) (fun c hc => hn_u_ne _ _ _ hc)
end HNseen
