section HNnames
variable {I I' : Nat → Nat → Int32} {J J' : Nat → Nat → Int64} {R R' : Nat → Nat → Option Nat}
/-! the first of so many that has a name -/
def nfd (nm : Nat → Nat) (v : Nat) : Nat → Option Nat := sp_up (fun i o => match o with | some k => some k | none => if nm i = v then some i else none) none
theorem nfd_s (nm : Nat → Nat) (v i : Nat) : nfd nm v (i + 1) = match nfd nm v i with | some k => some k | none => if nm i = v then some i else none := rfl
theorem nfd_up {nm : Nat → Nat} {v i j : Nat} (h : nfd nm v i = some j) : ∀ {k}, i ≤ k → nfd nm v k = some j := by
  intro k hk
  induction k with
  | zero => rw [show i = 0 by omega] at h; exact h
  | succ k ih =>
    by_cases hi : i = k + 1
    · rw [← hi]; exact h
    · rw [nfd_s, ih (by omega)]
theorem nfd_lt {nm : Nat → Nat} {v : Nat} : ∀ {k j : Nat}, nfd nm v k = some j → j < k ∧ nm j = v
  | 0, j, h => by cases h
  | k + 1, j, h => by
    rw [nfd_s] at h
    rcases (show nfd nm v k = none ∨ ∃ i, nfd nm v k = some i by cases nfd nm v k with | none => exact Or.inl rfl | some i => exact Or.inr ⟨i, rfl⟩) with e | ⟨i, e⟩
    · rw [e] at h
      by_cases hc : nm k = v
      · rw [if_pos hc] at h; cases h; exact ⟨Nat.lt_succ_self _, hc⟩
      · rw [if_neg hc] at h; cases h
    · rw [e] at h
      cases h
      have := nfd_lt e
      exact ⟨by omega, this.2⟩
theorem nfd_c {nm nm' : Nat → Nat} {v k : Nat} (h : ∀ i, i < k → nm i = nm' i) : nfd nm v k = nfd nm' v k := sp_up_congr (fun i s hi => by rw [h i hi])
def oI (o : Option Nat) : Int32 := match o with | none => -1 | some k => nI k
theorem oI_n {o : Option Nat} (h : ∀ k, o = some k → k < 100) : oI o = -1 ↔ o = none := by
  cases o with
  | none => exact ⟨fun _ => rfl, fun _ => rfl⟩
  | some k =>
    refine ⟨fun z => ?_, fun z => by cases z⟩
    have z2 : nI k = -1 := z
    have h1 := nI_toInt (n := k) (by have := h k rfl; omega)
    rw [z2] at h1
    have h3 : (-1 : Int32).toInt = -1 := by decide
    omega
/-- a net's names -/
def hs_Nn (I : Nat → Nat → Int32) (J : Nat → Nat → Int64) (a kn : Nat) (nm : Nat → Nat) (pn : Nat) (pm : Nat → Nat) : Prop := I a 0 = nI kn ∧ kn ≤ 8 ∧ (∀ i, i < kn → J (a + 1) i = nJ (nm i) ∧ nm i < 2000000000000) ∧ I (a + 11) 4 = nI pn ∧ pn ≤ 4 ∧ ∀ i, i < pn → J (a + 5) i = nJ (pm i) ∧ pm i < 2000000000000
theorem nJ_e {a b : Nat} (ha : a < 2000000000000) (hb : b < 2000000000000) : nJ a = nJ b ↔ a = b :=
  ⟨fun z => by have h1 := nJ_toInt (n := a) (by omega); rw [z, nJ_toInt (by omega)] at h1; omega, fun z => by rw [z]⟩
theorem q_Net_knotNamed {a kn pn v : Nat} {nm pm : Nat → Nat} (hN : hs_Net R a) (h : hs_Nn I J a kn nm pn pm) (hv : v < 2000000000000) : hn_F 0 hm_Net_knotNamed [.ref a, .long (nJ v)] (I, J, R) (fun r D' => r = some (.int (oI (nfd nm v kn))) ∧ D' = (I, J, R)) := by
  refine hn_F_of _ hk_Net_knotNamed rfl (Nat.le_of_ble_eq_true rfl) ?_
  obtain ⟨tt5, tn0, tn1, tn2, tn3, tn4, tn5, tn6, tn7, tn8, tn9, tn10, ts1, ts2, ts3, ts4, ts5, ts7, ts8, tl0, tl2, tl6, tl7⟩ := hN
  obtain ⟨h0, h8, hk, _⟩ := h
  have lp : nfd nm v 0 = none → hn_B 0 hm_Net_knotNamed (fun r D' => r = some (.int (oI (nfd nm v kn))) ∧ D' = (I, J, R)) 2 [.ref a, .long (nJ v), .null, .int (nI 0)] [] (I, J, R) := by
    refine sp_ind kn (fun i => nfd nm v i = none → hn_B 0 hm_Net_knotNamed (fun r D' => r = some (.int (oI (nfd nm v kn))) ∧ D' = (I, J, R)) 2 [.ref a, .long (nJ v), .null, .int (nI i)] [] (I, J, R)) ?_ ?_
    · intro hi
      refine b_iload_n rfl rfl ?_
      refine b_aload_n rfl rfl ?_
      refine b_getI rfl (by first | rfl | assumption) rfl ?_
      rw [h0]
      refine b_icmp_ge rfl (fun c_7 => ?_) (fun c_7 => ?_)
      · refine b_iconst rfl ?_
        exact b_ireturn rfl trivial (⟨by rw [hi]; rfl, rfl⟩)
      · exact absurd (nI_le (Nat.le_refl _) (by omega)) c_7
    · intro i hik ih hi
      obtain ⟨e1, e2⟩ := hk i hik
      have hs := nfd_s nm v i
      rw [hi] at hs
      by_cases hc : nm i = v
      · have hr : nfd nm v (i + 1) = some i := by rw [hs]; exact if_pos hc
        refine b_iload_n rfl rfl ?_
        refine b_aload_n rfl rfl ?_
        refine b_getI rfl (by first | rfl | assumption) rfl ?_
        rw [h0]
        refine b_icmp_ge rfl (fun c_7 => ?_) (fun c_7 => ?_)
        · exact absurd c_7 (nI_ge hik (by omega))
        · refine b_aload_n rfl rfl ?_
          refine b_getR rfl (by first | rfl | assumption) rfl (by assumption) ?_
          refine b_iload_n rfl rfl ?_
          refine b_laload rfl (by first | rfl | assumption) (by decide) (by first | assumption | exact nI_toInt (by omega) | exact hi_l0 | exact hi_l1 | exact hi_l2 | exact hi_l3 | exact hi_l4 | exact hi_l5 | exact hi_l6) (by omega) ?_
          rw [e1]
          refine b_lload_n rfl rfl ?_
          refine b_lcmp rfl ?_
          refine b_if_ne rfl (fun c_18 => ?_) (fun c_18 => ?_)
          · exact absurd ((lg_cmp_eq _ _).mpr ((nJ_e e2 hv).mpr hc)) c_18
          · refine b_iload_n rfl rfl ?_
            exact b_ireturn rfl trivial (⟨by rw [nfd_up hr (by omega)]; rfl, rfl⟩)
      · have hr : nfd nm v (i + 1) = none := by rw [hs]; exact if_neg hc
        refine b_iload_n rfl rfl ?_
        refine b_aload_n rfl rfl ?_
        refine b_getI rfl (by first | rfl | assumption) rfl ?_
        rw [h0]
        refine b_icmp_ge rfl (fun c_7 => ?_) (fun c_7 => ?_)
        · exact absurd c_7 (nI_ge hik (by omega))
        · refine b_aload_n rfl rfl ?_
          refine b_getR rfl (by first | rfl | assumption) rfl (by assumption) ?_
          refine b_iload_n rfl rfl ?_
          refine b_laload rfl (by first | rfl | assumption) (by decide) (by first | assumption | exact nI_toInt (by omega) | exact hi_l0 | exact hi_l1 | exact hi_l2 | exact hi_l3 | exact hi_l4 | exact hi_l5 | exact hi_l6) (by omega) ?_
          rw [e1]
          refine b_lload_n rfl rfl ?_
          refine b_lcmp rfl ?_
          refine b_if_ne rfl (fun c_18 => ?_) (fun c_18 => ?_)
          · refine b_iinc rfl rfl (Nat.le_of_ble_eq_true rfl) ?_
            refine b_goto rfl ?_
            exact b_lp (ih hr) (le_e (le_e (le_n (le_q (by rw [nI_succ]) le_0)))) rfl rfl
          · exact absurd ((nJ_e e2 hv).mp ((lg_cmp_eq _ _).mp c_18)) hc
  refine b_iconst rfl ?_
  refine b_istore_n rfl (Nat.le_of_ble_eq_true rfl) ?_
  exact b_lp (lp rfl) (le_e (le_e (le_n (le_q (by rfl) le_0)))) rfl rfl
theorem q_Net_personNamed {a kn pn v : Nat} {nm pm : Nat → Nat} (hN : hs_Net R a) (hSt : hs_St R (a + 11)) (h : hs_Nn I J a kn nm pn pm) (hv : v < 2000000000000) : hn_F 0 hm_Net_personNamed [.ref a, .long (nJ v)] (I, J, R) (fun r D' => r = some (.int (oI (nfd pm v pn))) ∧ D' = (I, J, R)) := by
  refine hn_F_of _ hk_Net_personNamed rfl (Nat.le_of_ble_eq_true rfl) ?_
  obtain ⟨tt5, tn0, tn1, tn2, tn3, tn4, tn5, tn6, tn7, tn8, tn9, tn10, ts1, ts2, ts3, ts4, ts5, ts7, ts8, tl0, tl2, tl6, tl7⟩ := hN
  obtain ⟨_, sk0, sk1, sk2, sk3, sk4, g0, g1, g2, g3⟩ := hSt
  obtain ⟨_, _, _, h0, h8, hk⟩ := h
  have lp : nfd pm v 0 = none → hn_B 0 hm_Net_personNamed (fun r D' => r = some (.int (oI (nfd pm v pn))) ∧ D' = (I, J, R)) 2 [.ref a, .long (nJ v), .null, .int (nI 0)] [] (I, J, R) := by
    refine sp_ind pn (fun i => nfd pm v i = none → hn_B 0 hm_Net_personNamed (fun r D' => r = some (.int (oI (nfd pm v pn))) ∧ D' = (I, J, R)) 2 [.ref a, .long (nJ v), .null, .int (nI i)] [] (I, J, R)) ?_ ?_
    · intro hi
      refine b_iload_n rfl rfl ?_
      refine b_aload_n rfl rfl ?_
      refine b_getR rfl (by first | rfl | assumption) rfl (by assumption) ?_
      refine b_getI rfl (by first | rfl | assumption) rfl ?_
      rw [h0]
      refine b_icmp_ge rfl (fun c_10 => ?_) (fun c_10 => ?_)
      · refine b_iconst rfl ?_
        exact b_ireturn rfl trivial (⟨by rw [hi]; rfl, rfl⟩)
      · exact absurd (nI_le (Nat.le_refl _) (by omega)) c_10
    · intro i hik ih hi
      obtain ⟨e1, e2⟩ := hk i hik
      have hs := nfd_s pm v i
      rw [hi] at hs
      by_cases hc : pm i = v
      · have hr : nfd pm v (i + 1) = some i := by rw [hs]; exact if_pos hc
        refine b_iload_n rfl rfl ?_
        refine b_aload_n rfl rfl ?_
        refine b_getR rfl (by first | rfl | assumption) rfl (by assumption) ?_
        refine b_getI rfl (by first | rfl | assumption) rfl ?_
        rw [h0]
        refine b_icmp_ge rfl (fun c_10 => ?_) (fun c_10 => ?_)
        · exact absurd c_10 (nI_ge hik (by omega))
        · refine b_aload_n rfl rfl ?_
          refine b_getR rfl (by first | rfl | assumption) rfl (by assumption) ?_
          refine b_iload_n rfl rfl ?_
          refine b_laload rfl (by first | rfl | assumption) (by decide) (by first | assumption | exact nI_toInt (by omega) | exact hi_l0 | exact hi_l1 | exact hi_l2 | exact hi_l3 | exact hi_l4 | exact hi_l5 | exact hi_l6) (by omega) ?_
          rw [e1]
          refine b_lload_n rfl rfl ?_
          refine b_lcmp rfl ?_
          refine b_if_ne rfl (fun c_21 => ?_) (fun c_21 => ?_)
          · exact absurd ((lg_cmp_eq _ _).mpr ((nJ_e e2 hv).mpr hc)) c_21
          · refine b_iload_n rfl rfl ?_
            exact b_ireturn rfl trivial (⟨by rw [nfd_up hr (by omega)]; rfl, rfl⟩)
      · have hr : nfd pm v (i + 1) = none := by rw [hs]; exact if_neg hc
        refine b_iload_n rfl rfl ?_
        refine b_aload_n rfl rfl ?_
        refine b_getR rfl (by first | rfl | assumption) rfl (by assumption) ?_
        refine b_getI rfl (by first | rfl | assumption) rfl ?_
        rw [h0]
        refine b_icmp_ge rfl (fun c_10 => ?_) (fun c_10 => ?_)
        · exact absurd c_10 (nI_ge hik (by omega))
        · refine b_aload_n rfl rfl ?_
          refine b_getR rfl (by first | rfl | assumption) rfl (by assumption) ?_
          refine b_iload_n rfl rfl ?_
          refine b_laload rfl (by first | rfl | assumption) (by decide) (by first | assumption | exact nI_toInt (by omega) | exact hi_l0 | exact hi_l1 | exact hi_l2 | exact hi_l3 | exact hi_l4 | exact hi_l5 | exact hi_l6) (by omega) ?_
          rw [e1]
          refine b_lload_n rfl rfl ?_
          refine b_lcmp rfl ?_
          refine b_if_ne rfl (fun c_21 => ?_) (fun c_21 => ?_)
          · refine b_iinc rfl rfl (Nat.le_of_ble_eq_true rfl) ?_
            refine b_goto rfl ?_
            exact b_lp (ih hr) (le_e (le_e (le_n (le_q (by rw [nI_succ]) le_0)))) rfl rfl
          · exact absurd ((nJ_e e2 hv).mp ((lg_cmp_eq _ _).mp c_21)) hc
  refine b_iconst rfl ?_
  refine b_istore_n rfl (Nat.le_of_ble_eq_true rfl) ?_
  exact b_lp (lp rfl) (le_e (le_e (le_n (le_q (by rfl) le_0)))) rfl rfl
/-! what a token's value may be -/
theorem num_b {f : Nat → Nat} {q : Nat} (h : ∀ i, f (q + i) < 128) : ∀ m, num f q m + 1 ≤ 89 ^ m
  | 0 => Nat.le_refl _
  | m + 1 => by
    have ih := num_b h m
    have h1 := h m
    show num f q m * 10 + (f (q + m) - 48) + 1 ≤ 89 ^ (m + 1)
    rw [Nat.pow_succ]
    generalize 89 ^ m = z at ih ⊢
    omega
theorem num_c {f g : Nat → Nat} {q m : Nat} (h : ∀ i, i < m → f (q + i) = g (q + i)) : num f q m = num g q m :=
  sp_up_congr (fun i s hi => by rw [h i hi])
theorem tok_v {f : Nat → Nat} {n : Nat} (hS : hs_Sg I f n) {p : Nat} (hp : p ≤ n) : ((tok f n p).1 = 1 → (tok f n p).2.2.2 < 2000000000000) ∧ ((tok f n p).1 = 2 → (tok f n p).2.2.2 < 100000000) ∧ ((tok f n p).1 = 3 → (tok f n p).2.2.2 < 128) := by
  have hle := run_le isB f (n - p) p
  unfold tok
  simp only
  generalize run isB f (n - p) p = q at hle
  have hf : ∀ i, (fun i => if i < n then f i else 0) i < 128 := fun i => by
    show (if i < n then f i else 0) < 128
    split
    · exact (hS.2 _ (by assumption)).2
    · omega
  by_cases h1 : n ≤ q
  · rw [if_pos h1]
    exact ⟨fun z => absurd (show (0 : Nat) = 1 from z) (by decide), fun z => absurd (show (0 : Nat) = 2 from z) (by decide), fun z => absurd (show (0 : Nat) = 3 from z) (by decide)⟩
  · rw [if_neg h1]
    by_cases hl : isL (f q)
    · rw [if_pos hl]
      have h2 := run_le isL f (n - q) q
      generalize run isL f (n - q) q = e at h2
      by_cases h8 : 8 < e - q
      · rw [if_pos h8]
        exact ⟨fun z => absurd (show (4 : Nat) = 1 from z) (by decide), fun z => absurd (show (4 : Nat) = 2 from z) (by decide), fun z => absurd (show (4 : Nat) = 3 from z) (by decide)⟩
      · rw [if_neg h8]
        refine ⟨fun _ => ?_, fun z => absurd (show (1 : Nat) = 2 from z) (by decide), fun z => absurd (show (1 : Nat) = 3 from z) (by decide)⟩
        show w27 f q (e - q) < _
        have h9 := w27_b (f := fun i => if i < n then f i else 0) (q := q) (fun i => hf _) (e - q)
        rw [w27_c (fun i hi => if_pos (by omega))] at h9
        have h10 : 33 ^ (e - q) ≤ 33 ^ 8 := Nat.pow_le_pow_right (by omega) (by omega)
        have h11 : 33 ^ 8 = 1406408618241 := by decide
        omega
    · rw [if_neg hl]
      by_cases hd : isD (f q)
      · rw [if_pos hd]
        have h2 := run_le isD f (n - q) q
        generalize run isD f (n - q) q = e at h2
        by_cases h8 : 4 < e - q
        · rw [if_pos h8]
          exact ⟨fun z => absurd (show (4 : Nat) = 1 from z) (by decide), fun z => absurd (show (4 : Nat) = 2 from z) (by decide), fun z => absurd (show (4 : Nat) = 3 from z) (by decide)⟩
        · rw [if_neg h8]
          refine ⟨fun z => absurd (show (2 : Nat) = 1 from z) (by decide), fun _ => ?_, fun z => absurd (show (2 : Nat) = 3 from z) (by decide)⟩
          show num f q (e - q) < _
          have h9 := num_b (f := fun i => if i < n then f i else 0) (q := q) (fun i => hf _) (e - q)
          rw [num_c (fun i hi => if_pos (by omega))] at h9
          have h10 : 89 ^ (e - q) ≤ 89 ^ 4 := Nat.pow_le_pow_right (by omega) (by omega)
          have h11 : 89 ^ 4 = 62742241 := by decide
          omega
      · rw [if_neg hd]
        by_cases hs : isS (f q)
        · rw [if_pos hs]
          exact ⟨fun z => absurd (show (3 : Nat) = 1 from z) (by decide), fun z => absurd (show (3 : Nat) = 2 from z) (by decide), fun _ => (hS.2 q (by omega)).2⟩
        · rw [if_neg hs]
          exact ⟨fun z => absurd (show (4 : Nat) = 1 from z) (by decide), fun z => absurd (show (4 : Nat) = 2 from z) (by decide), fun z => absurd (show (4 : Nat) = 3 from z) (by decide)⟩
theorem tq_v {f : Nat → Nat} {n : Nat} (hS : hs_Sg I f n) : ∀ k, ((tq f n k).1 = 1 → (tq f n k).2.2.2 < 2000000000000) ∧ ((tq f n k).1 = 2 → (tq f n k).2.2.2 < 100000000) ∧ ((tq f n k).1 = 3 → (tq f n k).2.2.2 < 128)
  | 0 => tok_v hS (Nat.zero_le _)
  | k + 1 => tok_v hS (tq_le f n k).1
end HNnames
