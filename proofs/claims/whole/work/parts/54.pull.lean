section HNpull
variable {I I' : Nat → Nat → Int32} {J J' : Nat → Nat → Int64} {R : Nat → Nat → Option Nat} {t : Nat} {N : sp_N} {Q Q' S : sp_Q} {U : sp_U} {V : sp_V}
/-! the best pull -/
def wo : Option Nat → Nat
  | none => 16
  | some x => if x % 2 = 0 then 32 - x else x
def bp (m : Int32) (w : Nat → Nat) : Nat → Option Nat := sp_up (fun k b => if sp_bit m k then (match b with | none => some k | some j => if w j < w k then some k else some j) else b) none
theorem bp_s (m : Int32) (w : Nat → Nat) (k : Nat) : bp m w (k + 1) = if sp_bit m k then (match bp m w k with | none => some k | some j => if w j < w k then some k else some j) else bp m w k := rfl
theorem bp_in (m : Int32) (w : Nat → Nat) : ∀ k j, bp m w k = some j → j < k ∧ sp_bit m j
  | 0, j, h => by cases h
  | k + 1, j, h => by
    rw [bp_s] at h
    by_cases hb : sp_bit m k
    · rw [if_pos hb] at h
      cases e : bp m w k with
      | none => rw [e] at h; cases h; exact ⟨by omega, hb⟩
      | some i =>
        rw [e] at h
        simp only at h
        split at h
        · cases h; exact ⟨by omega, hb⟩
        · have := bp_in m w k j (e.trans h); exact ⟨by omega, this.2⟩
    · rw [if_neg hb] at h
      have := bp_in m w k j h
      exact ⟨by omega, this.2⟩
theorem bp_no {m : Int32} {w : Nat → Nat} {n : Nat} (h : ∀ j, j < n → ¬ sp_bit m j) : bp m w n = none := by
  cases e : bp m w n with
  | none => rfl
  | some j => have := bp_in m w n j e; exact absurd this.2 (h j this.1)
theorem bp_is {m : Int32} {w : Nat → Nat} {o : Nat} (hb : sp_bit m o) (h2 : ∀ j, j < o → sp_bit m j → w j < w o) : ∀ i, (∀ j, j < o + 1 + i → sp_bit m j → w j ≤ w o) → bp m w (o + 1 + i) = some o
  | 0, _ => by
    rw [Nat.add_zero, bp_s, if_pos hb]
    cases e : bp m w o with
    | none => rfl
    | some j =>
      have := bp_in m w o j e
      simp only
      rw [if_pos (h2 j this.1 this.2)]
  | i + 1, h1 => by
    rw [← Nat.add_assoc, bp_s, bp_is hb h2 i (fun j hj => h1 j (by omega))]
    by_cases hbk : sp_bit m (o + 1 + i)
    · rw [if_pos hbk]
      simp only
      rw [if_neg (by have := h1 (o + 1 + i) (by omega) hbk; omega)]
    · rw [if_neg hbk]
theorem ex_first (c : Nat → Prop) : ∀ m, (∃ o, o < m ∧ c o) → ∃ o, o < m ∧ c o ∧ ∀ j, j < o → ¬ c j
  | 0, ⟨o, h, _⟩ => absurd h (by omega)
  | m + 1, ⟨o, ho, hc⟩ => by
    rcases Classical.em (∃ o, o < m ∧ c o) with h | h
    · obtain ⟨q, h1, h2, h3⟩ := ex_first c m h
      exact ⟨q, by omega, h2, h3⟩
    · have e : o = m := by
        rcases Classical.em (o = m) with e | e
        · exact e
        · exact absurd ⟨o, by omega, hc⟩ h
      subst e
      exact ⟨o, by omega, hc, fun j hj hcj => h ⟨j, hj, hcj⟩⟩
theorem sp_first_is {c : Nat → Prop} [DecidablePred c] {o : Nat} (hc : c o) : ∀ m i, i ≤ o → o < i + m → (∀ j, i ≤ j → j < o → ¬ c j) → sp_first c m i = nI o
  | 0, i, h1, h2, _ => by omega
  | m + 1, i, h1, h2, h3 => by
    have e : sp_first c (m + 1) i = if c i then nI i else sp_first c m (i + 1) := rfl
    rw [e]
    by_cases ei : i = o
    · rw [ei, if_pos hc]
    · rw [if_neg (h3 i (Nat.le_refl _) (by omega))]
      exact sp_first_is hc m (i + 1) (by omega) (by omega) (fun j hj => h3 j (by omega))
theorem sp_first_no {c : Nat → Prop} [DecidablePred c] : ∀ m i, (∀ j, i ≤ j → j < i + m → ¬ c j) → sp_first c m i = -1
  | 0, _, _ => rfl
  | m + 1, i, h => by
    have e : sp_first c (m + 1) i = if c i then nI i else sp_first c m (i + 1) := rfl
    rw [e, if_neg (h i (Nat.le_refl _) (by omega))]
    exact sp_first_no m (i + 1) (fun j h1 h2 => h j (by omega) (by omega))
abbrev pl_f (f : Nat → Option Nat) (k o : Nat) : Prop := (f k = none ∧ f o = none) ∨ (¬ f k = none ∧ 1 ≤ (f k).getD 0 ∧ f o = some ((f k).getD 0 - 1))
abbrev pl_c (s : Nat → Int32) (f : Nat → Option Nat) (k o : Nat) : Prop := sp_bit (s k) o ∧ pl_f f k o
theorem oc_ev {x : Nat} : oc (some x) = 0 ↔ x % 2 = 0 := Iff.rfl
theorem oc_od {x : Nat} : oc (some x) = 1 ↔ x % 2 = 1 := Iff.rfl
theorem bp_pull {s : Nat → Int32} {n k : Nat} (hn : n ≤ 8) (hk : k < n) (hs : ∀ o, sp_bit (s k) o → o < 8 → o < n) : sp_enc (bp (s k) (fun o => wo (tg s n 9 o)) 8) = sp_first (pl_c s (tg s n 9) k) n 0 := by
  have key : (∃ o, o < n ∧ pl_c s (tg s n 9) k o) → (∀ o, pl_c s (tg s n 9) k o → ∀ j, j < 8 → sp_bit (s k) j → wo (tg s n 9 j) ≤ wo (tg s n 9 o) ∧ (¬ pl_c s (tg s n 9) k j → wo (tg s n 9 j) < wo (tg s n 9 o))) → sp_enc (bp (s k) (fun o => wo (tg s n 9 o)) 8) = sp_first (pl_c s (tg s n 9) k) n 0 := by
    intro h1 h2
    obtain ⟨o, ho, hc, hf⟩ := ex_first _ n h1
    rw [sp_first_is hc n 0 (by omega) (by omega) (fun j _ hj => hf j hj)]
    have := bp_is (m := s k) (w := fun o => wo (tg s n 9 o)) (o := o) hc.1 (fun j hj hb => (h2 o hc j (by omega) hb).2 (hf j hj)) (8 - (o + 1)) (fun j hj hb => (h2 o hc j (by omega) hb).1)
    rw [show o + 1 + (8 - (o + 1)) = 8 by omega] at this
    rw [this]; rfl
  have hle : ∀ j x, tg s n 9 j = some x → x ≤ 8 := fun j x h => tg_x hn h
  rcases (show tg s n 9 k = none ∨ ∃ p, tg s n 9 k = some p by cases tg s n 9 k with | none => exact Or.inl rfl | some p => exact Or.inr ⟨p, rfl⟩) with hF | ⟨p, hF⟩
  · have hF10 : tg s n 10 = tg s n 9 := tg_9 hn 1
    have hA : ∀ o, o < 8 → sp_bit (s k) o → ¬ oc (tg s n 9 o) = 0 := fun o ho hb => by
      have := tg_A (s := s) (n := n) 10 (by omega) hk (by rw [hF10]; exact hF) ho hb
      rw [hF10] at this; exact this
    have hB := tg_B (s := s) (n := n) 9 (by omega) hk hF
    refine key ?_ ?_
    · refine Classical.byContradiction (fun hno => hB (fun o ho hb => ?_))
      have h0 := hA o ho hb
      have h3 := oc_lt (tg s n 9 o)
      have h2 : ¬ oc (tg s n 9 o) = 2 := fun e => hno ⟨o, hs o hb ho, hb, Or.inl ⟨hF, oc_none.mp e⟩⟩
      omega
    · intro o ho j hj hb
      have hon : tg s n 9 o = none := by
        rcases ho.2 with h | h
        · exact h.2
        · exact absurd hF h.1
      rw [hon]
      have h0 := hA j hj hb
      cases e : tg s n 9 j with
      | none => exact ⟨Nat.le_refl _, fun z => absurd ⟨hb, Or.inl ⟨hF, e⟩⟩ z⟩
      | some x =>
        rw [e] at h0
        have hx := hle j x e
        have hod : ¬ x % 2 = 0 := h0
        show (if x % 2 = 0 then 32 - x else x) ≤ 16 ∧ (_ → (if x % 2 = 0 then 32 - x else x) < 16)
        rw [if_neg hod]
        exact ⟨by omega, fun _ => by omega⟩
  · obtain ⟨hp9, hpn, _, hpc, _⟩ := tg_when 9 hF
    have hp8 := hle k p hF
    have later : ∀ o x, tg s n p o = some x → tg s n 9 o = some x := fun o x h => by
      have := tg_keeps h (9 - p)
      rwa [show p + (9 - p) = 9 by omega] at this
    have plf : ∀ o, pl_c s (tg s n 9) k o ↔ sp_bit (s k) o ∧ 1 ≤ p ∧ tg s n 9 o = some (p - 1) := fun o => by
      constructor
      · rintro ⟨hb, h | h⟩
        · rw [hF] at h; cases h.1
        · rw [hF] at h; exact ⟨hb, h.2⟩
      · rintro ⟨hb, h⟩
        exact ⟨hb, Or.inr (by rw [hF]; exact ⟨(fun z => by cases z), h⟩)⟩
    by_cases hev : p % 2 = 0
    · have hall : ∀ o, o < 8 → sp_bit (s k) o → oc (tg s n p o) = 1 := by unfold tg_c at hpc; rw [if_pos hev] at hpc; exact hpc
      by_cases hp0 : p = 0
      · subst hp0
        have hno : ∀ o, o < 8 → ¬ sp_bit (s k) o := fun o ho hb => by
          have := hall o ho hb
          have e : tg s n 0 o = none := rfl
          rw [e] at this
          exact absurd this (by decide)
        rw [bp_no hno, sp_first_no n 0 (fun j _ hj hc => hno j (by omega) hc.1)]; rfl
      · have hsome : ∀ o, o < 8 → sp_bit (s k) o → ∃ x, tg s n p o = some x ∧ x < p ∧ x % 2 = 1 := fun o ho hb => by
          have h1 := hall o ho hb
          cases e : tg s n p o with
          | none => rw [e] at h1; exact absurd h1 (by decide)
          | some x => rw [e] at h1; exact ⟨x, rfl, (tg_when p e).1, h1⟩
        refine key ?_ ?_
        · refine Classical.byContradiction (fun hno => ?_)
          have hun : tg s n (p - 2) k = none := tg_none (m := 2) (by rw [show p - 2 + 2 = p by omega]; exact hpn)
          have hc2 : tg_s s n (p - 2) (tg s n (p - 2)) k := by
            refine ⟨hk, hun, ?_⟩
            unfold tg_c
            rw [if_pos (by omega)]
            intro o ho hb
            obtain ⟨x, e, hx, hx1⟩ := hsome o ho hb
            have hne : ¬ x = p - 1 := fun z => hno ⟨o, hs o hb ho, (plf o).mpr ⟨hb, by omega, by rw [later o x e, z]⟩⟩
            obtain ⟨_, _, _, _, e5⟩ := tg_when p e
            have e6 := tg_keeps e5 (p - 2 - (x + 1))
            rw [show x + 1 + (p - 2 - (x + 1)) = p - 2 by omega] at e6
            rw [e6]; exact hx1
          have := tg_1_pos hc2
          rw [← tg_succ] at this
          have h9 := tg_keeps this 1
          rw [show p - 2 + 1 + 1 = p by omega, hpn] at h9
          cases h9
        · intro o ho j hj hb
          have hoe := ((plf o).mp ho).2.2
          obtain ⟨x, e, hx, hx1⟩ := hsome j hj hb
          rw [hoe, later j x e]
          show (if x % 2 = 0 then 32 - x else x) ≤ (if (p - 1) % 2 = 0 then 32 - (p - 1) else p - 1) ∧ (_ → (if x % 2 = 0 then 32 - x else x) < (if (p - 1) % 2 = 0 then 32 - (p - 1) else p - 1))
          rw [if_neg (by omega), if_neg (by omega)]
          refine ⟨by omega, fun z => ?_⟩
          have hne : ¬ x = p - 1 := fun y => z ((plf j).mpr ⟨hb, by omega, by rw [later j x e, y]⟩)
          omega
    · have hex : ∃ o, o < 8 ∧ sp_bit (s k) o ∧ oc (tg s n p o) = 0 := by unfold tg_c at hpc; rw [if_neg hev] at hpc; exact hpc
      have hlow : ∀ o x, o < 8 → sp_bit (s k) o → tg s n 9 o = some x → x % 2 = 0 → p - 1 ≤ x := by
        intro o x ho hb e hx
        refine Nat.le_of_not_lt (fun hlt => ?_)
        obtain ⟨_, _, _, _, e5⟩ := tg_when 9 e
        have hun : tg s n (x + 1) k = none := tg_none (m := p - (x + 1)) (by rw [show x + 1 + (p - (x + 1)) = p by omega]; exact hpn)
        have hc2 : tg_s s n (x + 1) (tg s n (x + 1)) k := by
          refine ⟨hk, hun, ?_⟩
          unfold tg_c
          rw [if_neg (by omega)]
          exact ⟨o, ho, hb, by rw [e5]; exact hx⟩
        have := tg_1_pos hc2
        rw [← tg_succ] at this
        have h9 := tg_keeps this (p - (x + 2))
        rw [show x + 1 + 1 + (p - (x + 2)) = p by omega, hpn] at h9
        cases h9
      refine key ?_ ?_
      · obtain ⟨o, ho, hb, e0⟩ := hex
        cases e : tg s n p o with
        | none => rw [e] at e0; exact absurd e0 (by decide)
        | some x =>
          rw [e] at e0
          have hx : x % 2 = 0 := e0
          have h1 := (tg_when p e).1
          have h2 := hlow o x ho hb (later o x e) hx
          exact ⟨o, hs o hb ho, (plf o).mpr ⟨hb, by omega, by rw [later o x e, show x = p - 1 by omega]⟩⟩
      · intro o ho j hj hb
        have hoe := ((plf o).mp ho).2.2
        rw [hoe]
        have hwo : wo (some (p - 1)) = 32 - (p - 1) := by show (if (p - 1) % 2 = 0 then 32 - (p - 1) else p - 1) = 32 - (p - 1); rw [if_pos (by omega)]
        rw [hwo]
        cases e : tg s n 9 j with
        | none =>
          show 16 ≤ 32 - (p - 1) ∧ (_ → 16 < 32 - (p - 1))
          exact ⟨by omega, fun _ => by omega⟩
        | some x =>
          have hx8 := hle j x e
          show (if x % 2 = 0 then 32 - x else x) ≤ 32 - (p - 1) ∧ (_ → (if x % 2 = 0 then 32 - x else x) < 32 - (p - 1))
          by_cases hx : x % 2 = 0
          · rw [if_pos hx]
            have := hlow j x hj hb e hx
            refine ⟨by omega, fun z => ?_⟩
            have hne : ¬ x = p - 1 := fun y => z ((plf j).mpr ⟨hb, by omega, by rw [e, y]⟩)
            omega
          · rw [if_neg hx]
            exact ⟨by omega, fun _ => by omega⟩
theorem q_Ways_worthOf {k : Nat} {f : Nat → Option Nat} (hR : hs_refs R) (hk : k < 8) (hT : hs_Tg I 179 180 f) (hx : ∀ x, f k = some x → x ≤ 8) : hn_F 0 hm_Ways_worthOf [.ref 178, .int (nI k)] (I, J, R) (fun r D' => D' = (I, J, R) ∧ r = some (.int (nI (wo (f k))))) := by
  obtain ⟨r0, r1, r2, r3⟩ := hs_Ways_of hR
  obtain ⟨t1, t2⟩ := hT k hk
  refine hn_F_of _ hk_Ways_worthOf rfl (Nat.le_of_ble_eq_true rfl) ?_
  cases e : f k with
  | none =>
    rw [e] at t1 t2
    have t1 : I 179 k = 2 := t1
    refine b_aload_n rfl rfl ?_
    refine b_getR rfl (by first | rfl | assumption) rfl (by assumption) ?_
    refine b_iload_n rfl rfl ?_
    refine b_iaload rfl (by first | rfl | assumption) (by first | assumption | exact nI_toInt (by omega) | exact hi_l0 | exact hi_l1 | exact hi_l2 | exact hi_l3 | exact hi_l4 | exact hi_l5 | exact hi_l6) (by omega) ?_
    rw [t1]
    refine b_lsw (q := 42) rfl (by decide) rfl ?_
    refine b_bipush rfl ?_
    exact b_ireturn rfl trivial (⟨rfl, rfl⟩)
  | some x =>
    rw [e] at t1 t2
    have hx8 := hx x e
    have t2 : I 180 k = nI x := t2
    by_cases hev : x % 2 = 0
    · have t1 : I 179 k = 0 := by rw [t1]; show nI (x % 2) = 0; rw [hev]; rfl
      have hw : wo (some x) = 32 - x := by show (if x % 2 = 0 then 32 - x else x) = 32 - x; rw [if_pos hev]
      have h32 : (32 : Int32) - nI x = nI (32 - x) := by
        rw [show (32 : Int32) = nI (32 - x) + nI x by rw [← nI_ad, show 32 - x + x = 32 by omega]; decide, Int32.add_sub_cancel]
      rw [hw]
      refine b_aload_n rfl rfl ?_
      refine b_getR rfl (by first | rfl | assumption) rfl (by assumption) ?_
      refine b_iload_n rfl rfl ?_
      refine b_iaload rfl (by first | rfl | assumption) (by first | assumption | exact nI_toInt (by omega) | exact hi_l0 | exact hi_l1 | exact hi_l2 | exact hi_l3 | exact hi_l4 | exact hi_l5 | exact hi_l6) (by omega) ?_
      rw [t1]
      refine b_lsw (q := 32) rfl (by decide) rfl ?_
      refine b_bipush rfl ?_
      refine b_aload_n rfl rfl ?_
      refine b_getR rfl (by first | rfl | assumption) rfl (by assumption) ?_
      refine b_iload_n rfl rfl ?_
      refine b_iaload rfl (by first | rfl | assumption) (by first | assumption | exact nI_toInt (by omega) | exact hi_l0 | exact hi_l1 | exact hi_l2 | exact hi_l3 | exact hi_l4 | exact hi_l5 | exact hi_l6) (by omega) ?_
      rw [t2]
      refine b_isub rfl ?_
      exact b_ireturn rfl trivial (⟨rfl, by rw [h32]⟩)
    · have t1 : I 179 k = 1 := by rw [t1]; show nI (x % 2) = 1; rw [show x % 2 = 1 by omega]; rfl
      have hw : wo (some x) = x := by show (if x % 2 = 0 then 32 - x else x) = x; rw [if_neg hev]
      rw [hw]
      refine b_aload_n rfl rfl ?_
      refine b_getR rfl (by first | rfl | assumption) rfl (by assumption) ?_
      refine b_iload_n rfl rfl ?_
      refine b_iaload rfl (by first | rfl | assumption) (by first | assumption | exact nI_toInt (by omega) | exact hi_l0 | exact hi_l1 | exact hi_l2 | exact hi_l3 | exact hi_l4 | exact hi_l5 | exact hi_l6) (by omega) ?_
      rw [t1]
      refine b_lsw (q := 45) rfl (by decide) rfl ?_
      refine b_aload_n rfl rfl ?_
      refine b_getR rfl (by first | rfl | assumption) rfl (by assumption) ?_
      refine b_iload_n rfl rfl ?_
      refine b_iaload rfl (by first | rfl | assumption) (by first | assumption | exact nI_toInt (by omega) | exact hi_l0 | exact hi_l1 | exact hi_l2 | exact hi_l3 | exact hi_l4 | exact hi_l5 | exact hi_l6) (by omega) ?_
      rw [t2]
      exact b_ireturn rfl trivial (⟨rfl, rfl⟩)
theorem wo_le {x : Option Nat} (h : ∀ y, x = some y → y ≤ 8) : wo x ≤ 32 := by
  cases x with
  | none => show 16 ≤ 32; omega
  | some y =>
    have := h y rfl
    show (if y % 2 = 0 then 32 - y else y) ≤ 32
    split <;> omega
theorem q_Ways_bestPull {m : Int32} {f : Nat → Option Nat} (hR : hs_refs R) (hT : hs_Tg I 179 180 f) (hx : ∀ k x, f k = some x → x ≤ 8) : hn_F 1 hm_Ways_bestPull [.ref 178, .int m] (I, J, R) (fun r D' => D' = (I, J, R) ∧ r = some (.int (sp_enc (bp m (fun o => wo (f o)) 8)))) := by
  obtain ⟨r0, r1, r2, r3⟩ := hs_Ways_of hR
  refine hn_F_of _ hk_Ways_bestPull rfl (Nat.le_of_ble_eq_true rfl) ?_
  refine b_iconst rfl ?_
  refine b_istore_n rfl (Nat.le_of_ble_eq_true rfl) ?_
  refine b_iconst rfl ?_
  refine b_istore_n rfl (Nat.le_of_ble_eq_true rfl) ?_
  refine b_lp (sp_ind 8 (fun k => hn_B 1 hm_Ways_bestPull _ 4 [.ref 178, .int m, .int (sp_enc (bp m (fun o => wo (f o)) k)), .int (nI k), .null] [] (I, J, R)) ?_ ?_) (le_e (le_e (le_q (by rfl) (le_q (by rw [nI_0]) (le_n le_0))))) rfl rfl
  · refine b_iload_n rfl rfl ?_
    refine b_bipush rfl ?_
    refine b_icmp_ge rfl (fun c_7 => ?_) (fun c_7 => ?_)
    · refine b_iload_n rfl rfl ?_
      exact b_ireturn rfl trivial (⟨rfl, rfl⟩)
    · exact absurd hi_88 c_7
  · intro k hk ih
    rw [bp_s m (fun o => wo (f o)) k] at ih
    by_cases hb : sp_bit m k
    · rw [if_pos hb] at ih
      cases e : bp m (fun o => wo (f o)) k with
      | none =>
        rw [e] at ih
        refine b_iload_n rfl rfl ?_
        refine b_bipush rfl ?_
        refine b_icmp_ge rfl (fun c_7 => ?_) (fun c_7 => ?_)
        · exact absurd c_7 (hi_ge8 hk)
        · refine b_iload_n rfl rfl ?_
          refine b_iload_n rfl rfl ?_
          refine b_ishr rfl ?_
          refine b_iconst rfl ?_
          refine b_iand rfl ?_
          refine b_if_eq rfl (fun c_15 => ?_) (fun c_15 => ?_)
          · exact absurd c_15 hb
          · refine b_iconst rfl ?_
            refine b_goto rfl ?_
            refine b_istore rfl (Nat.le_of_ble_eq_true rfl) ?_
            refine b_iload rfl rfl ?_
            refine b_if_eq rfl (fun c_27 => ?_) (fun c_27 => ?_)
            · exact absurd c_27 (by decide)
            · refine b_iload_n rfl rfl ?_
              refine b_iconst rfl ?_
              refine b_icmp_eq rfl (fun c_32 => ?_) (fun c_32 => ?_)
              · refine b_iload_n rfl rfl ?_
                refine b_istore_n rfl (Nat.le_of_ble_eq_true rfl) ?_
                refine b_iinc rfl rfl (Nat.le_of_ble_eq_true rfl) ?_
                refine b_goto rfl ?_
                exact b_lp ih (le_e (le_e (le_q (by rfl) (le_q (by rw [nI_succ]) (le_n le_0))))) rfl rfl
              · exact absurd (show sp_enc none = -1 from rfl) c_32
      | some j =>
        obtain ⟨hj, hbj⟩ := bp_in _ _ _ _ e
        rw [e] at ih
        simp only at ih
        have h1 := wo_le (hx j)
        have h2 := wo_le (hx k)
        have hne : ¬ sp_enc (some j) = -1 := fun z => by
          have e1 : (nI j).toInt = -1 := by rw [show nI j = -1 from z]; decide
          rw [nI_toInt (by omega)] at e1
          omega
        by_cases hw : wo (f j) < wo (f k)
        · rw [if_pos hw] at ih
          refine b_iload_n rfl rfl ?_
          refine b_bipush rfl ?_
          refine b_icmp_ge rfl (fun c_7 => ?_) (fun c_7 => ?_)
          · exact absurd c_7 (hi_ge8 hk)
          · refine b_iload_n rfl rfl ?_
            refine b_iload_n rfl rfl ?_
            refine b_ishr rfl ?_
            refine b_iconst rfl ?_
            refine b_iand rfl ?_
            refine b_if_eq rfl (fun c_15 => ?_) (fun c_15 => ?_)
            · exact absurd c_15 hb
            · refine b_iconst rfl ?_
              refine b_goto rfl ?_
              refine b_istore rfl (Nat.le_of_ble_eq_true rfl) ?_
              refine b_iload rfl rfl ?_
              refine b_if_eq rfl (fun c_27 => ?_) (fun c_27 => ?_)
              · exact absurd c_27 (by decide)
              · refine b_iload_n rfl rfl ?_
                refine b_iconst rfl ?_
                refine b_icmp_eq rfl (fun c_32 => ?_) (fun c_32 => ?_)
                · exact absurd c_32 hne
                · refine b_aload_n rfl rfl ?_
                  refine b_iload_n rfl rfl ?_
                  refine b_callV rfl rfl hk_Ways_worthOf rfl rfl rfl (by first | rfl | assumption) rfl (Nat.le_of_ble_eq_true rfl) (q_Ways_worthOf hR hk hT (hx k)) (Nat.le_of_ble_eq_true rfl) (fun r_37 D_37 q_37 => ?_)
                  obtain ⟨rfl, rfl⟩ := q_37
                  refine b_aload_n rfl rfl ?_
                  refine b_iload_n rfl rfl ?_
                  refine b_callV rfl rfl hk_Ways_worthOf rfl rfl rfl (by first | rfl | assumption) rfl (Nat.le_of_ble_eq_true rfl) (q_Ways_worthOf hR (show j < 8 by omega) hT (hx j)) (Nat.le_of_ble_eq_true rfl) (fun r_42 D_42 q_42 => ?_)
                  obtain ⟨rfl, rfl⟩ := q_42
                  refine b_icmp_le rfl (fun c_45 => ?_) (fun c_45 => ?_)
                  · exact absurd c_45 (nI_ge hw (by omega))
                  · refine b_iload_n rfl rfl ?_
                    refine b_istore_n rfl (Nat.le_of_ble_eq_true rfl) ?_
                    refine b_iinc rfl rfl (Nat.le_of_ble_eq_true rfl) ?_
                    refine b_goto rfl ?_
                    exact b_lp ih (le_e (le_e (le_q (by rfl) (le_q (by rw [nI_succ]) (le_n le_0))))) rfl rfl
        · rw [if_neg hw] at ih
          refine b_iload_n rfl rfl ?_
          refine b_bipush rfl ?_
          refine b_icmp_ge rfl (fun c_7 => ?_) (fun c_7 => ?_)
          · exact absurd c_7 (hi_ge8 hk)
          · refine b_iload_n rfl rfl ?_
            refine b_iload_n rfl rfl ?_
            refine b_ishr rfl ?_
            refine b_iconst rfl ?_
            refine b_iand rfl ?_
            refine b_if_eq rfl (fun c_15 => ?_) (fun c_15 => ?_)
            · exact absurd c_15 hb
            · refine b_iconst rfl ?_
              refine b_goto rfl ?_
              refine b_istore rfl (Nat.le_of_ble_eq_true rfl) ?_
              refine b_iload rfl rfl ?_
              refine b_if_eq rfl (fun c_27 => ?_) (fun c_27 => ?_)
              · exact absurd c_27 (by decide)
              · refine b_iload_n rfl rfl ?_
                refine b_iconst rfl ?_
                refine b_icmp_eq rfl (fun c_32 => ?_) (fun c_32 => ?_)
                · exact absurd c_32 hne
                · refine b_aload_n rfl rfl ?_
                  refine b_iload_n rfl rfl ?_
                  refine b_callV rfl rfl hk_Ways_worthOf rfl rfl rfl (by first | rfl | assumption) rfl (Nat.le_of_ble_eq_true rfl) (q_Ways_worthOf hR hk hT (hx k)) (Nat.le_of_ble_eq_true rfl) (fun r_37 D_37 q_37 => ?_)
                  obtain ⟨rfl, rfl⟩ := q_37
                  refine b_aload_n rfl rfl ?_
                  refine b_iload_n rfl rfl ?_
                  refine b_callV rfl rfl hk_Ways_worthOf rfl rfl rfl (by first | rfl | assumption) rfl (Nat.le_of_ble_eq_true rfl) (q_Ways_worthOf hR (show j < 8 by omega) hT (hx j)) (Nat.le_of_ble_eq_true rfl) (fun r_42 D_42 q_42 => ?_)
                  obtain ⟨rfl, rfl⟩ := q_42
                  refine b_icmp_le rfl (fun c_45 => ?_) (fun c_45 => ?_)
                  · refine b_iinc rfl rfl (Nat.le_of_ble_eq_true rfl) ?_
                    refine b_goto rfl ?_
                    exact b_lp ih (le_e (le_e (le_q (by rfl) (le_q (by rw [nI_succ]) (le_n le_0))))) rfl rfl
                  · exact absurd (nI_le (show wo (f k) ≤ wo (f j) by omega) (by omega)) c_45
    · rw [if_neg hb] at ih
      refine b_iload_n rfl rfl ?_
      refine b_bipush rfl ?_
      refine b_icmp_ge rfl (fun c_7 => ?_) (fun c_7 => ?_)
      · exact absurd c_7 (hi_ge8 hk)
      · refine b_iload_n rfl rfl ?_
        refine b_iload_n rfl rfl ?_
        refine b_ishr rfl ?_
        refine b_iconst rfl ?_
        refine b_iand rfl ?_
        refine b_if_eq rfl (fun c_15 => ?_) (fun c_15 => ?_)
        · refine b_iconst rfl ?_
          refine b_istore rfl (Nat.le_of_ble_eq_true rfl) ?_
          refine b_iload rfl rfl ?_
          refine b_if_eq rfl (fun c_27 => ?_) (fun c_27 => ?_)
          · refine b_iinc rfl rfl (Nat.le_of_ble_eq_true rfl) ?_
            refine b_goto rfl ?_
            exact b_lp ih (le_e (le_e (le_q (by rfl) (le_q (by rw [nI_succ]) (le_n le_0))))) rfl rfl
          · exact absurd rfl c_27
        · exact absurd c_15 hb
/-! tug and pull of the class -/
theorem sp_qs_lt {n np : Nat} (hw : hs_Qw n np Q) (h8 : n ≤ 8) (k : Nat) : sp_lt n (qS Q k) := by
  by_cases h : k < n
  · exact hw.2.1 k h
  · rw [hw.2.2.1 k (by omega)]; exact sp_lt_0
noncomputable def v_tug (N : sp_N) (Q : sp_Q) (x w : Int32) : Int32 := sp_at x N.1 (fun k => if w = 0 then nI (oc (tg (qS Q) N.1 9 k)) else if w = 1 then sp_enc (tg (qS Q) N.1 9 k) else -2) (-2)
noncomputable def v_pull (N : sp_N) (Q : sp_Q) (x : Int32) : Int32 := sp_at x N.1 (fun k => sp_first (pl_c (qS Q) (tg (qS Q) N.1 9) k) N.1 0) (-1)
theorem hi_01 {w : Int32} (h0 : 0 ≤ w.toInt) (h1 : w.toInt ≤ 1) : w = 0 ∨ w = 1 := by
  have e0 : (0 : Int32).toInt = 0 := rfl
  have e1 : (1 : Int32).toInt = 1 := rfl
  rcases (show w.toInt = 0 ∨ w.toInt = 1 by omega) with h | h
  · exact Or.inl (hi_eq (by rw [h, e0]))
  · exact Or.inr (hi_eq (by rw [h, e1]))
theorem sx_tug {I2 : Nat → Nat → Int32} (hz : hs_z I 49) (ht : t = 4 ∨ t = 20) (hf : ∀ b, b ≠ 179 → b ≠ 180 → I2 b = I b) : hs_sx t I J R (I2, J, R) :=
  ⟨rfl, fun b hb => hf b (fun e => hb (by unfold hs_xs; omega)) (fun e => hb (by unfold hs_xs; omega)), fun _ _ _ _ => rfl, hs_z_fr hz (fun b h1 h2 => hf b (by omega) (by omega))⟩
theorem q_X_tug {x w : Int32} (hA : hs_A I R t N Q) : hn_F 3 hm_X_tug [.ref 0, .int x, .int w] (I, J, R) (fun r D' => hs_sx t I J R D' ∧ r = some (.int (v_tug N Q x w))) := by
  have hA0 := hA
  obtain ⟨hR, r2, ht, hN, hX, hw, hz, hAw⟩ := hA
  have hN0 := hN
  have hX0 := hX
  have hw0 := hw
  obtain ⟨n0, n8, n4, nk, nh, na, hc, ncd⟩ := hN
  obtain ⟨x1, x2, x3, x4, x5, x6, x7⟩ := hX
  obtain ⟨r6, r7, r8, r11, r12, r13, r14, r15, r16, r17, r18⟩ := hs_x0 hR
  have hSt := hs_St_of hR (show 44 ∈ hs_sc by decide)
  have hNt := hs_Net_of hR ht
  obtain ⟨_, sk0, sk1, sk2, sk3, sk4, g0, g1, g2, g3⟩ := id hSt
  obtain ⟨tt5, tn0, tn1, tn2, tn3, tn4, tn5, tn6, tn7, tn8, tn9, tn10, ts1, ts2, ts3, ts4, ts5, ts7, ts8, tl0, tl2, tl6, tl7⟩ := id hNt
  obtain ⟨y0, y1, y2, y3⟩ := hs_Ways_of hR
  have hlt : ∀ k, k < 8 → sp_lt 8 (I (44 + 1) k) := fun k _ => by rw [x1]; exact sp_lt_mono n8 (sp_qs_lt hw0 n8 k)
  refine hn_F_of _ hk_X_tug rfl (Nat.le_of_ble_eq_true rfl) ?_
  by_cases hx : sp_in x N.1
  · obtain ⟨k, hk, rfl⟩ := sp_in_nat hx
    rw [v_tug, sp_at_in hk n8]
    by_cases hw9 : 0 ≤ w.toInt ∧ w.toInt ≤ 1
    · rcases hi_01 hw9.1 hw9.2 with rfl | rfl
      · refine b_aload_n rfl rfl ?_
        refine b_iload_n rfl rfl ?_
        refine b_callV rfl rfl hk_X_isKnot rfl rfl rfl (by first | rfl | assumption) rfl (Nat.le_of_ble_eq_true rfl) (q_X_isKnot hA0) (Nat.le_of_ble_eq_true rfl) (fun r_2 D_2 q_2 => ?_)
        obtain ⟨rfl, hq⟩ := q_2
        rw [if_pos hx] at hq
        subst hq
        refine b_if_eq rfl (fun c_5 => ?_) (fun c_5 => ?_)
        · exact absurd c_5 (by decide)
        · refine b_iload_n rfl rfl ?_
          refine b_if_lt rfl (fun c_9 => ?_) (fun c_9 => ?_)
          · exact absurd c_9 (by decide)
          · refine b_iload_n rfl rfl ?_
            refine b_iconst rfl ?_
            refine b_icmp_le rfl (fun c_14 => ?_) (fun c_14 => ?_)
            · refine b_aload_n rfl rfl ?_
              refine b_getR rfl (by first | rfl | assumption) rfl (by assumption) ?_
              refine b_aload_n rfl rfl ?_
              refine b_getR rfl (by first | rfl | assumption) rfl (by assumption) ?_
              refine b_getR rfl (by first | rfl | assumption) rfl (by assumption) ?_
              refine b_aload_n rfl rfl ?_
              refine b_getR rfl (by first | rfl | assumption) rfl (by assumption) ?_
              refine b_getI rfl (by first | rfl | assumption) rfl ?_
              rw [n0]
              refine b_callV rfl rfl hk_Ways_judgeTugs rfl rfl rfl (by first | rfl | assumption) rfl (Nat.le_of_ble_eq_true rfl) (q_Ways_judgeTugs hR rfl (by omega) hlt n8) (Nat.le_of_ble_eq_true rfl) (fun r_38 D_38 q_38 => ?_)
              obtain ⟨rfl, I2, rfl, hf, hT⟩ := q_38
              rw [x1] at hT
              refine b_iload_n rfl rfl ?_
              refine b_if_ne rfl (fun c_42 => ?_) (fun c_42 => ?_)
              · exact absurd rfl c_42
              · refine b_aload_n rfl rfl ?_
                refine b_getR rfl (by first | rfl | assumption) rfl (by assumption) ?_
                refine b_getR rfl (by first | rfl | assumption) rfl (by assumption) ?_
                refine b_iload_n rfl rfl ?_
                refine b_iaload rfl (by first | rfl | assumption) (by first | assumption | exact nI_toInt (by omega) | exact hi_l0 | exact hi_l1 | exact hi_l2 | exact hi_l3 | exact hi_l4 | exact hi_l5 | exact hi_l6) (by omega) ?_
                rw [(hT k (by omega)).1]
                refine b_goto rfl ?_
                exact b_ireturn rfl trivial (⟨sx_tug hz ht hf, rfl⟩)
            · exact absurd (show (0 : Int32) ≤ 1 by decide) c_14
      · refine b_aload_n rfl rfl ?_
        refine b_iload_n rfl rfl ?_
        refine b_callV rfl rfl hk_X_isKnot rfl rfl rfl (by first | rfl | assumption) rfl (Nat.le_of_ble_eq_true rfl) (q_X_isKnot hA0) (Nat.le_of_ble_eq_true rfl) (fun r_2 D_2 q_2 => ?_)
        obtain ⟨rfl, hq⟩ := q_2
        rw [if_pos hx] at hq
        subst hq
        refine b_if_eq rfl (fun c_5 => ?_) (fun c_5 => ?_)
        · exact absurd c_5 (by decide)
        · refine b_iload_n rfl rfl ?_
          refine b_if_lt rfl (fun c_9 => ?_) (fun c_9 => ?_)
          · exact absurd c_9 (by decide)
          · refine b_iload_n rfl rfl ?_
            refine b_iconst rfl ?_
            refine b_icmp_le rfl (fun c_14 => ?_) (fun c_14 => ?_)
            · refine b_aload_n rfl rfl ?_
              refine b_getR rfl (by first | rfl | assumption) rfl (by assumption) ?_
              refine b_aload_n rfl rfl ?_
              refine b_getR rfl (by first | rfl | assumption) rfl (by assumption) ?_
              refine b_getR rfl (by first | rfl | assumption) rfl (by assumption) ?_
              refine b_aload_n rfl rfl ?_
              refine b_getR rfl (by first | rfl | assumption) rfl (by assumption) ?_
              refine b_getI rfl (by first | rfl | assumption) rfl ?_
              rw [n0]
              refine b_callV rfl rfl hk_Ways_judgeTugs rfl rfl rfl (by first | rfl | assumption) rfl (Nat.le_of_ble_eq_true rfl) (q_Ways_judgeTugs hR rfl (by omega) hlt n8) (Nat.le_of_ble_eq_true rfl) (fun r_38 D_38 q_38 => ?_)
              obtain ⟨rfl, I2, rfl, hf, hT⟩ := q_38
              rw [x1] at hT
              refine b_iload_n rfl rfl ?_
              refine b_if_ne rfl (fun c_42 => ?_) (fun c_42 => ?_)
              · refine b_aload_n rfl rfl ?_
                refine b_getR rfl (by first | rfl | assumption) rfl (by assumption) ?_
                refine b_getR rfl (by first | rfl | assumption) rfl (by assumption) ?_
                refine b_iload_n rfl rfl ?_
                refine b_iaload rfl (by first | rfl | assumption) (by first | assumption | exact nI_toInt (by omega) | exact hi_l0 | exact hi_l1 | exact hi_l2 | exact hi_l3 | exact hi_l4 | exact hi_l5 | exact hi_l6) (by omega) ?_
                rw [(hT k (by omega)).2]
                exact b_ireturn rfl trivial (⟨sx_tug hz ht hf, rfl⟩)
              · exact absurd c_42 (by decide)
            · exact absurd (show (1 : Int32) ≤ 1 by decide) c_14
    · rw [if_neg (fun z => hw9 (by rw [z]; decide)), if_neg (fun z => hw9 (by rw [z]; decide))]
      refine b_aload_n rfl rfl ?_
      refine b_iload_n rfl rfl ?_
      refine b_callV rfl rfl hk_X_isKnot rfl rfl rfl (by first | rfl | assumption) rfl (Nat.le_of_ble_eq_true rfl) (q_X_isKnot hA0) (Nat.le_of_ble_eq_true rfl) (fun r_2 D_2 q_2 => ?_)
      obtain ⟨rfl, hq⟩ := q_2
      rw [if_pos hx] at hq
      subst hq
      refine b_if_eq rfl (fun c_5 => ?_) (fun c_5 => ?_)
      · exact absurd c_5 (by decide)
      · refine b_iload_n rfl rfl ?_
        refine b_if_lt rfl (fun c_9 => ?_) (fun c_9 => ?_)
        · refine b_bipush rfl ?_
          exact b_ireturn rfl trivial (⟨hs_sx_r hz, rfl⟩)
        · refine b_iload_n rfl rfl ?_
          refine b_iconst rfl ?_
          refine b_icmp_le rfl (fun c_14 => ?_) (fun c_14 => ?_)
          · exact absurd ⟨by have := mt (hi_lt (x := w) rfl hi_t0).mpr c_9; omega, (hi_le rfl hi_t1).mp c_14⟩ hw9
          · refine b_bipush rfl ?_
            exact b_ireturn rfl trivial (⟨hs_sx_r hz, rfl⟩)
  · rw [v_tug, sp_at_out hx]
    refine b_aload_n rfl rfl ?_
    refine b_iload_n rfl rfl ?_
    refine b_callV rfl rfl hk_X_isKnot rfl rfl rfl (by first | rfl | assumption) rfl (Nat.le_of_ble_eq_true rfl) (q_X_isKnot hA0) (Nat.le_of_ble_eq_true rfl) (fun r_2 D_2 q_2 => ?_)
    obtain ⟨rfl, hq⟩ := q_2
    rw [if_neg hx] at hq
    subst hq
    refine b_if_eq rfl (fun c_5 => ?_) (fun c_5 => ?_)
    · refine b_bipush rfl ?_
      exact b_ireturn rfl trivial (⟨hs_sx_r hz, rfl⟩)
    · exact absurd rfl c_5
theorem q_X_pull {x : Int32} (hA : hs_A I R t N Q) : hn_F 3 hm_X_pull [.ref 0, .int x] (I, J, R) (fun r D' => hs_sx t I J R D' ∧ r = some (.int (v_pull N Q x))) := by
  have hA0 := hA
  obtain ⟨hR, r2, ht, hN, hX, hw, hz, hAw⟩ := hA
  have hN0 := hN
  have hX0 := hX
  have hw0 := hw
  obtain ⟨n0, n8, n4, nk, nh, na, hc, ncd⟩ := hN
  obtain ⟨x1, x2, x3, x4, x5, x6, x7⟩ := hX
  obtain ⟨r6, r7, r8, r11, r12, r13, r14, r15, r16, r17, r18⟩ := hs_x0 hR
  have hSt := hs_St_of hR (show 44 ∈ hs_sc by decide)
  have hNt := hs_Net_of hR ht
  obtain ⟨_, sk0, sk1, sk2, sk3, sk4, g0, g1, g2, g3⟩ := id hSt
  obtain ⟨tt5, tn0, tn1, tn2, tn3, tn4, tn5, tn6, tn7, tn8, tn9, tn10, ts1, ts2, ts3, ts4, ts5, ts7, ts8, tl0, tl2, tl6, tl7⟩ := id hNt
  obtain ⟨y0, y1, y2, y3⟩ := hs_Ways_of hR
  have hlt : ∀ k, k < 8 → sp_lt 8 (I (44 + 1) k) := fun k _ => by rw [x1]; exact sp_lt_mono n8 (sp_qs_lt hw0 n8 k)
  refine hn_F_of _ hk_X_pull rfl (Nat.le_of_ble_eq_true rfl) ?_
  by_cases hx : sp_in x N.1
  · obtain ⟨k, hk, rfl⟩ := sp_in_nat hx
    rw [v_pull, sp_at_in hk n8, ← bp_pull n8 hk (fun o hb ho => Classical.byContradiction (fun hge => sp_bit_lt (sp_qs_lt hw0 n8 k) (by omega) (by omega) hb))]
    refine b_aload_n rfl rfl ?_
    refine b_iload_n rfl rfl ?_
    refine b_callV rfl rfl hk_X_isKnot rfl rfl rfl (by first | rfl | assumption) rfl (Nat.le_of_ble_eq_true rfl) (q_X_isKnot hA0) (Nat.le_of_ble_eq_true rfl) (fun r_2 D_2 q_2 => ?_)
    obtain ⟨rfl, hq⟩ := q_2
    rw [if_pos hx] at hq
    subst hq
    refine b_if_ne rfl (fun c_5 => ?_) (fun c_5 => ?_)
    · refine b_aload_n rfl rfl ?_
      refine b_getR rfl (by first | rfl | assumption) rfl (by assumption) ?_
      refine b_aload_n rfl rfl ?_
      refine b_getR rfl (by first | rfl | assumption) rfl (by assumption) ?_
      refine b_getR rfl (by first | rfl | assumption) rfl (by assumption) ?_
      refine b_aload_n rfl rfl ?_
      refine b_getR rfl (by first | rfl | assumption) rfl (by assumption) ?_
      refine b_getI rfl (by first | rfl | assumption) rfl ?_
      rw [n0]
      refine b_callV rfl rfl hk_Ways_judgeTugs rfl rfl rfl (by first | rfl | assumption) rfl (Nat.le_of_ble_eq_true rfl) (q_Ways_judgeTugs hR rfl (by omega) hlt n8) (Nat.le_of_ble_eq_true rfl) (fun r_28 D_28 q_28 => ?_)
      obtain ⟨rfl, I2, rfl, hf, hT⟩ := q_28
      rw [x1] at hT
      refine b_aload_n rfl rfl ?_
      refine b_getR rfl (by first | rfl | assumption) rfl (by assumption) ?_
      refine b_aload_n rfl rfl ?_
      refine b_getR rfl (by first | rfl | assumption) rfl (by assumption) ?_
      refine b_getR rfl (by first | rfl | assumption) rfl (by assumption) ?_
      refine b_iload_n rfl rfl ?_
      refine b_iaload rfl (by first | rfl | assumption) (by first | assumption | exact nI_toInt (by omega) | exact hi_l0 | exact hi_l1 | exact hi_l2 | exact hi_l3 | exact hi_l4 | exact hi_l5 | exact hi_l6) (by omega) ?_
      rw [show I2 (44 + 1) k = qS Q k by rw [hf _ (by omega) (by omega), x1]]
      refine b_callV rfl rfl hk_Ways_bestPull rfl rfl rfl (by first | rfl | assumption) rfl (Nat.le_of_ble_eq_true rfl) (q_Ways_bestPull hR hT (fun k x h => tg_x n8 h)) (Nat.le_of_ble_eq_true rfl) (fun r_44 D_44 q_44 => ?_)
      obtain ⟨rfl, rfl⟩ := q_44
      exact b_ireturn rfl trivial (⟨sx_tug hz ht hf, rfl⟩)
    · exact absurd c_5 (by decide)
  · rw [v_pull, sp_at_out hx]
    refine b_aload_n rfl rfl ?_
    refine b_iload_n rfl rfl ?_
    refine b_callV rfl rfl hk_X_isKnot rfl rfl rfl (by first | rfl | assumption) rfl (Nat.le_of_ble_eq_true rfl) (q_X_isKnot hA0) (Nat.le_of_ble_eq_true rfl) (fun r_2 D_2 q_2 => ?_)
    obtain ⟨rfl, hq⟩ := q_2
    rw [if_neg hx] at hq
    subst hq
    refine b_if_ne rfl (fun c_5 => ?_) (fun c_5 => ?_)
    · exact absurd rfl c_5
    · refine b_iconst rfl ?_
      exact b_ireturn rfl trivial (⟨hs_sx_r hz, rfl⟩)
end HNpull
