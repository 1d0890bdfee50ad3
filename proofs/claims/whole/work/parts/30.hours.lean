section HNhours
theorem sp_clamp_in (v : Int32) : ∃ c : Nat, c ≤ 9 ∧ sp_clamp v = nI c := by
  have l0 := hi_lt (x := v) (y := 0) rfl hi_t0
  have g9 := hi_lt (x := 9) (y := v) (show (9 : Int32).toInt = 9 from rfl) rfl
  unfold sp_clamp
  by_cases h1 : v < 0
  · rw [if_pos h1]; exact ⟨0, by omega, rfl⟩
  · rw [if_neg h1]
    by_cases h2 : 9 < v
    · rw [if_pos h2]; exact ⟨9, by omega, rfl⟩
    · rw [if_neg h2]
      have a := mt l0.mpr h1
      have b := mt g9.mpr h2
      exact ⟨v.toInt.toNat, by omega, hi_nI (by omega)⟩
theorem sp_will_bd {kd hd : Nat → Int32} {lf : Int32 → Int32 → Int32 → Int32 → Int32} {fm : Int32} {k : Nat} {will many others : Int32} (h : ∃ i : Nat, i ≤ 40 ∧ will = nI i) : ∃ j : Nat, j ≤ 40 ∧ sp_will kd hd lf fm k will many others = nI j := by
  obtain ⟨i, hi, hw⟩ := h
  obtain ⟨c, hc, hv⟩ := sp_clamp_in (lf (hd k) will many others)
  have e2 : (2 : Int32) * nI c = nI (2 * c) := by rw [nI_ml]; rfl
  obtain ⟨x, hx, hxv⟩ : ∃ x : Nat, x ≤ 18 ∧ (if sp_kind kd fm k = 3 then 2 * sp_clamp (lf (hd k) will many others) else sp_clamp (lf (hd k) will many others)) = nI x := by
    by_cases h3 : sp_kind kd fm k = 3
    · rw [if_pos h3, hv, e2]; exact ⟨2 * c, by omega, rfl⟩
    · rw [if_neg h3, hv]; exact ⟨c, by omega, rfl⟩
  obtain ⟨y, hy, hyv⟩ : ∃ y : Nat, y ≤ 1 ∧ (if sp_kind kd fm k = 1 then (1 : Int32) else 0) = nI y := by
    by_cases h3 : sp_kind kd fm k = 1
    · rw [if_pos h3]; exact ⟨1, by omega, rfl⟩
    · rw [if_neg h3]; exact ⟨0, by omega, rfl⟩
  have hl : (will - nI x).toInt = (i : Int) - (x : Int) := hi_subc (by rw [hw]; exact nI_toInt (by omega)) (nI_toInt (by omega)) (by omega) (by omega)
  simp only [sp_will]
  rw [hxv, hyv]
  have lt := hi_lt (x := nI y) (y := will - nI x) (nI_toInt (by omega)) hl
  by_cases h4 : nI y < will - nI x
  · rw [if_pos h4]
    have := lt.mp h4
    exact ⟨i - x, by omega, hi_nI (by rw [hl]; omega)⟩
  · rw [if_neg h4]; exact ⟨y, by omega, rfl⟩
section
variable {n np : Nat} {kd hd s : Nat → Int32} {lf : Int32 → Int32 → Int32 → Int32 → Int32} {fm odd : Int32}
theorem sp_ps_ne {p q : Nat} {T : sp_S3 × Int32} (h : q ≠ p) : (sp_ps n kd hd lf fm s np odd p T).1.1 q = T.1.1 q ∧ (sp_ps n kd hd lf fm s np odd p T).1.2.1 q = T.1.2.1 q ∧ (sp_ps n kd hd lf fm s np odd p T).1.2.2 q = T.1.2.2 q := by
  unfold sp_ps
  by_cases e : sp_awk T.1.1 T.1.2.1 p
  · rw [if_pos e]
    cases hq : sp_pick hd (s (T.1.2.1 p).toNatClampNeg) (nI p = odd) n with
    | none => exact ⟨rfl, rfl, rfl⟩
    | some k => exact ⟨if_neg h, if_neg h, if_neg h⟩
  · rw [if_neg e]; exact ⟨rfl, rfl, rfl⟩
theorem sp_ps_ge {S : sp_S3} : ∀ m q, m ≤ q → (sp_up (sp_ps n kd hd lf fm s np odd) (S, 0) m).1.1 q = S.1 q ∧ (sp_up (sp_ps n kd hd lf fm s np odd) (S, 0) m).1.2.1 q = S.2.1 q ∧ (sp_up (sp_ps n kd hd lf fm s np odd) (S, 0) m).1.2.2 q = S.2.2 q
  | 0, q, _ => ⟨rfl, rfl, rfl⟩
  | m + 1, q, h => by
    have ih := sp_ps_ge (S := S) m q (by omega)
    have h2 := sp_ps_ne (n := n) (kd := kd) (hd := hd) (s := s) (lf := lf) (fm := fm) (odd := odd) (np := np) (p := m) (T := sp_up (sp_ps n kd hd lf fm s np odd) (S, 0) m) (show q ≠ m by omega)
    exact ⟨h2.1.trans ih.1, h2.2.1.trans ih.2.1, h2.2.2.trans ih.2.2⟩
theorem sp_ps_will {S : sp_S3} (h : ∀ p, p < np → ∃ i : Nat, i ≤ 40 ∧ S.1 p = nI i) : ∀ m, ∀ p, p < np → ∃ i : Nat, i ≤ 40 ∧ (sp_up (sp_ps n kd hd lf fm s np odd) (S, 0) m).1.1 p = nI i
  | 0 => h
  | m + 1 => by
    intro p hp
    have ih := sp_ps_will h m p hp
    show ∃ i : Nat, i ≤ 40 ∧ (sp_ps n kd hd lf fm s np odd m (sp_up (sp_ps n kd hd lf fm s np odd) (S, 0) m)).1.1 p = nI i
    generalize sp_up (sp_ps n kd hd lf fm s np odd) (S, 0) m = T at ih ⊢
    by_cases hpm : p = m
    · subst hpm
      unfold sp_ps
      by_cases e : sp_awk T.1.1 T.1.2.1 p
      · rw [if_pos e]
        cases hq : sp_pick hd (s (T.1.2.1 p).toNatClampNeg) (nI p = odd) n with
        | none => exact ih
        | some k =>
          obtain ⟨j, hj, e2⟩ := sp_will_bd (kd := kd) (hd := hd) (lf := lf) (fm := fm) (k := k) (many := T.1.2.2 p) (others := sp_others T.1.2.1 k np) ih
          exact ⟨j, hj, (if_pos rfl).trans e2⟩
      · rw [if_neg e]; exact ih
    · rw [(sp_ps_ne (T := T) hpm).1]; exact ih
/-- who fell: who lay and is up now -/
theorem sp_ps_fell {S : sp_S3} (hn8 : n ≤ 8) : ∀ m, m ≤ 4 → ∀ p, p < 31 → (sp_bit (sp_up (sp_ps n kd hd lf fm s np odd) (S, 0) m).2 p ↔ ¬ S.2.1 p = -1 ∧ (sp_up (sp_ps n kd hd lf fm s np odd) (S, 0) m).1.2.1 p = -1)
  | 0, _, p, hp => ⟨fun z => absurd z (sp_bit_0 hp), fun z => absurd z.2 z.1⟩
  | m + 1, hm, p, hp => by
    have ih := sp_ps_fell (S := S) hn8 m (by omega) p hp
    have hge := sp_ps_ge (n := n) (kd := kd) (hd := hd) (s := s) (lf := lf) (fm := fm) (odd := odd) (np := np) (S := S) m m (Nat.le_refl _)
    show sp_bit (sp_ps n kd hd lf fm s np odd m (sp_up (sp_ps n kd hd lf fm s np odd) (S, 0) m)).2 p ↔ ¬ S.2.1 p = -1 ∧ (sp_ps n kd hd lf fm s np odd m (sp_up (sp_ps n kd hd lf fm s np odd) (S, 0) m)).1.2.1 p = -1
    generalize sp_up (sp_ps n kd hd lf fm s np odd) (S, 0) m = T at ih hge ⊢
    by_cases hpm : p = m
    · subst hpm
      rw [hge.2.1] at ih
      have ih' : ¬ sp_bit T.2 p := fun z => (ih.mp z).1 (ih.mp z).2
      unfold sp_ps
      by_cases e : sp_awk T.1.1 T.1.2.1 p
      · rw [if_pos e]
        cases hq : sp_pick hd (s (T.1.2.1 p).toNatClampNeg) (nI p = odd) n with
        | none => exact ⟨fun z => absurd z ih', fun z => absurd (hge.2.1.symm.trans z.2) z.1⟩
        | some k =>
          have hk := sp_pick_lt _ _ _ _ _ hq
          have hS : ¬ S.2.1 p = -1 := by rw [← hge.2.1]; exact e.1
          show sp_bit (if sp_gf kd hd lf fm np T.1 p k then T.2 ||| ((1 : Int32) <<< (nI p &&& 31)) else T.2) p ↔ ¬ S.2.1 p = -1 ∧ va_up T.1.2.1 p (if sp_gf kd hd lf fm np T.1 p k then -1 else nI k) p = -1
          rw [va_up, if_pos rfl]
          by_cases hg : sp_gf kd hd lf fm np T.1 p k
          · rw [if_pos hg, if_pos hg, sp_bit_or hp, sp_bit_1 hp hp]
            exact ⟨fun _ => ⟨hS, rfl⟩, fun _ => Or.inr rfl⟩
          · rw [if_neg hg, if_neg hg]
            exact ⟨fun z => absurd z ih', fun z => absurd z.2 (hi_ne (nI_toInt (by omega)) hi_tm1 (by omega))⟩
      · rw [if_neg e]; exact ⟨fun z => absurd z ih', fun z => absurd (by rw [← hge.2.1]; exact z.2) z.1⟩
    · rw [(sp_ps_ne (T := T) hpm).2.1, ← ih]
      unfold sp_ps
      by_cases e : sp_awk T.1.1 T.1.2.1 m
      · rw [if_pos e]
        cases hq : sp_pick hd (s (T.1.2.1 m).toNatClampNeg) (nI m = odd) n with
        | none => exact Iff.rfl
        | some k =>
          show sp_bit (if sp_gf kd hd lf fm np T.1 m k then T.2 ||| ((1 : Int32) <<< (nI m &&& 31)) else T.2) p ↔ _
          by_cases hg : sp_gf kd hd lf fm np T.1 m k
          · rw [if_pos hg, sp_bit_or hp, sp_bit_1 (by omega) hp]
            exact ⟨fun z => z.resolve_right hpm, Or.inl⟩
          · rw [if_neg hg]
      · rw [if_neg e]
/-- who is up stays up -/
theorem sp_ps_up {S : sp_S3} {p : Nat} (h : S.2.1 p = -1) : ∀ m, (sp_up (sp_ps n kd hd lf fm s np odd) (S, 0) m).1.2.1 p = -1
  | 0 => h
  | m + 1 => by
    have ih := sp_ps_up h m
    show (sp_ps n kd hd lf fm s np odd m (sp_up (sp_ps n kd hd lf fm s np odd) (S, 0) m)).1.2.1 p = -1
    generalize sp_up (sp_ps n kd hd lf fm s np odd) (S, 0) m = T at ih ⊢
    by_cases hpm : p = m
    · subst hpm
      unfold sp_ps
      rw [if_neg (fun z => z.1 ih)]
      exact ih
    · rw [(sp_ps_ne (T := T) hpm).2.1]; exact ih
end
theorem sp_hr_w {N : sp_N} {Q : sp_Q} {fm odd : Int32} (h4 : N.2.1 ≤ 4) (h : hs_Qw N.1 N.2.1 Q) : hs_Qw N.1 N.2.1 (sp_hr N fm odd Q).1 := by
  obtain ⟨w1, w2, w3, w4, w5, w6, w7, w8, w9⟩ := h
  have hge := fun q (hq : N.2.1 ≤ q) => sp_ps_ge (n := N.1) (kd := nK N) (hd := nH N) (s := qS Q) (lf := nF N) (fm := fm) (odd := odd) (np := N.2.1) (S := (qW Q, qP Q, qH Q)) N.2.1 q hq
  exact ⟨hs_pl_pass (S := (qW Q, qP Q, qH Q)) w1 N.2.1, w2, w3, w4, sp_ps_will (S := (qW Q, qP Q, qH Q)) w5 N.2.1, fun p hp => (hge p hp).1.trans (w6 p hp), fun p hp h4 => (hge p hp).2.1.trans (w7 p hp h4), fun p hp => (hge p (by omega)).2.1.trans (w8 p hp), fun p hp => (hge p hp).2.2.trans (w9 p hp)⟩
theorem sp_hr_fell {N : sp_N} {Q : sp_Q} {fm odd : Int32} {p : Nat} (h8 : N.1 ≤ 8) (h4 : N.2.1 ≤ 4) (hp : p < 31) : sp_bit (sp_hr N fm odd Q).2 p ↔ ¬ qP Q p = -1 ∧ qP (sp_hr N fm odd Q).1 p = -1 := sp_ps_fell (S := (qW Q, qP Q, qH Q)) h8 N.2.1 h4 p hp
theorem sp_hr_up {N : sp_N} {Q : sp_Q} {fm odd : Int32} {p : Nat} (h : qP Q p = -1) : qP (sp_hr N fm odd Q).1 p = -1 := sp_ps_up (S := (qW Q, qP Q, qH Q)) h N.2.1
/-- hours go by -/
def sp_hrs (N : sp_N) (Q : sp_Q) : Nat → sp_Q := sp_up (fun _ q => (sp_hr N 0 (-1) q).1) Q
theorem sp_hrs_w {N : sp_N} {Q : sp_Q} (h4 : N.2.1 ≤ 4) (h : hs_Qw N.1 N.2.1 Q) : ∀ m, hs_Qw N.1 N.2.1 (sp_hrs N Q m)
  | 0 => h
  | m + 1 => sp_hr_w h4 (sp_hrs_w h4 h m)
/-- the first from i on, of m, that c tells -/
def sp_first (c : Nat → Prop) [DecidablePred c] : Nat → Nat → Int32
  | 0, _ => -1
  | m + 1, i => if c i then nI i else sp_first c m (i + 1)
theorem sp_first_s (c : Nat → Prop) [DecidablePred c] {e i : Nat} (h : i < e) : sp_first c (e - i) i = if c i then nI i else sp_first c (e - (i + 1)) (i + 1) := by
  rw [show e - i = (e - (i + 1)) + 1 by omega]
  rfl
/-- a shift keeps a state in bounds -/
theorem sp_sh_w {N : sp_N} {Q : sp_Q} {fm : Int32} {p k : Nat} (h : hs_Qw N.1 N.2.1 Q) (hp : p < N.2.1) (hk : k < N.1) (h4 : N.2.1 ≤ 4) : hs_Qw N.1 N.2.1 (sp_sh N fm Q p k) := by
  obtain ⟨w1, w2, w3, w4, w5, w6, w7, w8, w9⟩ := h
  refine ⟨hs_pl_go (S := (qW Q, qP Q, qH Q)) w1 hk, w2, w3, w4, fun q hq => ?_, fun q hq => ?_, fun q hq h => ?_, fun q hq => ?_, fun q hq => ?_⟩
  · show ∃ i : Nat, i ≤ 40 ∧ va_up (qW Q) p _ q = nI i
    unfold va_up
    by_cases e : q = p
    · rw [if_pos e]; exact sp_will_bd (w5 p hp)
    · rw [if_neg e]; exact w5 q hq
  · exact (if_neg (show ¬ q = p by omega)).trans (w6 q hq)
  · exact (if_neg (show ¬ q = p by omega)).trans (w7 q hq h)
  · exact (if_neg (show ¬ q = p by omega)).trans (w8 q hq)
  · exact (if_neg (show ¬ q = p by omega)).trans (w9 q hq)
end HNhours
