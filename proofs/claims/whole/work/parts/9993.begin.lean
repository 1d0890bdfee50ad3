section HNbegin
variable {I I1 I2 : Nat → Nat → Int32} {J : Nat → Nat → Int64}
abbrev R00 : Nat → Nat → Option Nat := fun _ _ => none
theorem R0_refs : hs_refs (mR (xR R00)) := by
  have h : ∀ x, x ∈ hn_reft → mR (xR R00) x.1 x.2.1 = some x.2.2 := by decide +kernel
  exact h
theorem R0_0 : mR (xR R00) 0 2 = some 4 ∧ mR (xR R00) 0 3 = some 20 ∧ mR (xR R00) 0 4 = some 36 ∧ mR (xR R00) 0 5 = some 40 := by decide +kernel
def U0 : sp_U := (Q0, 0, fun _ => Q0)
def V0 : sp_V := (0, 0, (fun _ => 0), (fun _ => 0), (fun _ => 0))
def K0 : sp_K := fun _ => none
def L0 : sp_L := (0, fun _ => (0, 0, 0))
def T0 : sp_T := ((fun _ => 0), 0)
def nm0 : Nat → Nat := fun _ => 0
theorem Q0_x {a : Nat} (e : ∀ b, a ≤ b → b ≤ a + 4 → I b = fun _ => 0) : hs_Qx I a N0.1 N0.2.1 0 Q0 :=
  ⟨e (a + 1) (by omega) (by omega), e (a + 2) (by omega) (by omega), Or.inr ⟨rfl, rfl, e (a + 3) (by omega) (by omega)⟩, e (a + 4) (by omega) (by omega), by rw [e a (by omega) (by omega)]; rfl, by rw [e a (by omega) (by omega)]; rfl, by rw [e a (by omega) (by omega)]⟩
theorem z_0 {a : Nat} (e : ∀ b, a ≤ b → b ≤ a + 4 → I b = fun _ => 0) : hs_z I a :=
  ⟨fun i _ => by rw [e (a + 1) (by omega) (by omega)], fun i _ => by rw [e (a + 2) (by omega) (by omega), e (a + 3) (by omega) (by omega), e (a + 4) (by omega) (by omega)]; exact ⟨rfl, rfl, rfl⟩⟩
theorem W_0 (hI : ∀ b, b < 5000 → I b = fun _ => 0) (f1 : ∀ c, c ≠ 194 → I1 c = I c) (f2 : ∀ j, I1 194 j = if 0 ≤ j ∧ j < 0 + 60 then (if j = 0 + 4 then -1 else 0) else I 194 j) (g : hs_bg I1 I2 Q0) : hs_Wo I2 (mJ J) (mR (xR R00)) 4 20 36 40 N0 Q0 U0 V0 K0 L0 T0 nm0 nm0 := by
  obtain ⟨g1, g2, g3, g4, g5, g6, g7, g8, g9⟩ := g
  have e : ∀ b, b < 188 → I2 b = fun _ => 0 := fun b hb => by rw [g8 b (by omega) (by omega) (by omega) (by omega), f1 b (by omega), hI b (by omega)]
  have e94 : ∀ j, I2 194 j = if 0 ≤ j ∧ j < 0 + 60 then (if j = 0 + 4 then -1 else 0) else I 194 j := fun j => by rw [g8 194 (by omega) (by omega) (by omega) (by omega), f2]
  have e88 : ∀ i, i ≠ 24 → i ≠ 26 → I2 188 i = 0 := fun i h1 h2 => by rw [g9 i h1 h2, f1 188 (by omega), hI 188 (by omega)]
  have d0 : ∀ {p : Nat} {P : Prop}, p < 0 → P := fun h => absurd h (Nat.not_lt_zero _)
  have hz : ∀ a, a ∈ hs_sc → hs_z I2 a := fun a ha => z_0 (fun b h1 h2 => e b (by have := hs_sc_k a ha; omega))
  have hAw : hs_Aw N0 := ⟨fun k hk => d0 hk, fun _ _ => rfl⟩
  have hcd : hs_code I2 4 (nS N0) := ⟨by rw [e (4 + 6) (by omega)]; rfl, Nat.zero_le _, fun i hi => by
    have : i = 0 := Nat.le_zero.mp hi
    subst this
    show ev_ln _ 0 ≤ 64
    exact Nat.zero_le 64⟩
  refine ⟨⟨⟨R0_refs, R0_0.1, Or.inl rfl, ⟨by rw [e 4 (by omega)]; rfl, Nat.zero_le _, Nat.zero_le _, e (4 + 2) (by omega), e (4 + 3) (by omega), e (4 + 4) (by omega), hcd, e (4 + 7) (by omega)⟩, Q0_x (fun b h1 h2 => e b (by omega)), Q0_w, hz 49 (by decide), hAw⟩, hz, ⟨0, by omega, by rw [e 0 (by omega)]; rfl, by rw [e 0 (by omega)]; rfl, Nat.zero_le _, fun j hj => d0 hj⟩, Q0_x (fun b h1 h2 => e b (by omega)), ⟨R0_0.2.1, Or.inl ⟨rfl, rfl⟩⟩, ⟨R0_0.2.2.1, R0_0.2.2.2, Or.inl ⟨rfl, rfl⟩⟩, ⟨by rw [e (36) (by omega)]; rfl, Nat.zero_le _, fun i hi => d0 hi⟩, ⟨by rw [e 135 (by omega)]; rfl, Nat.zero_le _, fun h => d0 h, fun i hi => d0 hi, fun i _ => Or.inl (by rw [e (135 + 3) (by omega)])⟩, fun m hm => by rw [e 141 (by omega)]; rfl, ⟨by rw [e 1 (by omega)]; rfl, fun i hi => d0 hi⟩, ⟨z_0 (fun b h1 h2 => e b (by omega)), fun i _ => by rw [e (20 + 4) (by omega)]⟩, ⟨by rw [e 4 (by omega)]; rfl, Nat.zero_le _, fun i hi => d0 hi, by rw [e (4 + 11) (by omega)]; rfl, Nat.zero_le _, fun i hi => d0 hi⟩⟩, ?_, ?_⟩
  · refine ⟨⟨R0_refs, ⟨⟨by rw [e94]; rfl, Nat.zero_le _, by rw [e94]; rfl, Nat.zero_le _, fun k hk => d0 hk⟩, Or.inl ⟨by rw [e94]; rfl, fun _ _ _ _ => rfl⟩⟩, g1, g6, Q0_w, hAw⟩, ⟨g5, Nat.zero_le _, fun j hj => d0 hj⟩, ⟨fun k hk => d0 hk, fun k hk => d0 hk, fun _ => rfl, rfl⟩, ⟨g4, fun i hi => d0 hi⟩, ⟨g2, Nat.zero_le _, fun h => d0 h, fun i hi => d0 hi⟩, fun m hm => g7 m hm, ⟨e88 2 (by omega) (by omega), fun i hi => d0 hi⟩, ⟨⟨rfl, fun j hj => d0 hj, fun j hj => d0 hj, fun j hj => d0 hj⟩, e88 18 (by omega) (by omega)⟩, mJ_Wm⟩
  · exact ⟨Nat.zero_le _, Nat.zero_le _, Q0_w, ⟨Q0_w, fun j hj => d0 hj⟩, ⟨fun h => d0 h, fun i hi => d0 hi, fun i hi => d0 hi⟩, (fun m q _ h => by cases h), fun i hi => d0 hi, Nat.zero_le _, ⟨Nat.zero_le _, fun i hi => d0 hi⟩, fun h => d0 h, ⟨Nat.zero_le _, Nat.zero_le _, fun i hi => d0 hi, fun i hi => d0 hi, fun i j hi => d0 hi, fun i j hi => d0 hi, fun i p hi => d0 hi⟩⟩
end HNbegin
