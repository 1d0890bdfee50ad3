section HNlines
variable {I I' : Nat → Nat → Int32} {J J' : Nat → Nat → Int64} {R R' : Nat → Nat → Option Nat}
/-- a net being told: knots (how many, names, kinds, holds), strings, against, persons (how many, names, wills, places), the law's code, the last first -/
abbrev sp_B : Type := Nat × (Nat → Nat) × (Nat → Nat) × (Nat → Nat) × (Nat → Int32) × (Nat → Int32) × Nat × (Nat → Nat) × (Nat → Nat) × (Nat → Nat) × Option (List Int32)
abbrev bK (B : sp_B) : Nat := B.1
abbrev bNm (B : sp_B) : Nat → Nat := B.2.1
abbrev bKd (B : sp_B) : Nat → Nat := B.2.2.1
abbrev bHd (B : sp_B) : Nat → Nat := B.2.2.2.1
abbrev bSt (B : sp_B) : Nat → Int32 := B.2.2.2.2.1
abbrev bAg (B : sp_B) : Nat → Int32 := B.2.2.2.2.2.1
abbrev bP (B : sp_B) : Nat := B.2.2.2.2.2.2.1
abbrev bPm (B : sp_B) : Nat → Nat := B.2.2.2.2.2.2.2.1
abbrev bWl (B : sp_B) : Nat → Nat := B.2.2.2.2.2.2.2.2.1
abbrev bPl (B : sp_B) : Nat → Nat := B.2.2.2.2.2.2.2.2.2.1
abbrev bL (B : sp_B) : Option (List Int32) := B.2.2.2.2.2.2.2.2.2.2
def upN (f : Nat → Nat) (k v : Nat) : Nat → Nat := fun i => if i = k then v else f i
/-! one more told -/
def b_k (B : sp_B) (nm kd hd : Nat) : sp_B := (bK B + 1, upN (bNm B) (bK B) nm, upN (bKd B) (bK B) kd, upN (bHd B) (bK B) hd, bSt B, bAg B, bP B, bPm B, bWl B, bPl B, bL B)
def b_s (B : sp_B) (a b : Nat) : sp_B := (bK B, bNm B, bKd B, bHd B, va_up (bSt B) a (bSt B a ||| ((1 : Int32) <<< (nI b &&& 31))), bAg B, bP B, bPm B, bWl B, bPl B, bL B)
def b_a (B : sp_B) (a b : Nat) : sp_B := (bK B, bNm B, bKd B, bHd B, bSt B, va_up (bAg B) a (bAg B a ||| ((1 : Int32) <<< (nI b &&& 31))), bP B, bPm B, bWl B, bPl B, bL B)
def b_p (B : sp_B) (nm wl pl : Nat) : sp_B := (bK B, bNm B, bKd B, bHd B, bSt B, bAg B, bP B + 1, upN (bPm B) (bP B) nm, upN (bWl B) (bP B) wl, upN (bPl B) (bP B) pl, bL B)
def b_l (B : sp_B) (C : List Int32) : sp_B := (bK B, bNm B, bKd B, bHd B, bSt B, bAg B, bP B, bPm B, bWl B, bPl B, some C)
def b_0 : sp_B := (0, fun _ => 0, fun _ => 0, fun _ => 0, fun _ => 0, fun _ => 0, 0, fun _ => 0, fun _ => 0, fun _ => 0, none)
/-- a line of a net -/
def p_ln (f : Nat → Nat) (n : Nat) (x : rd × sp_B) : rd × sp_B :=
  let s := x.1
  let B := x.2
  let o := fun j => (o_k f n (bNm B) (bK B) (0, s.2 + j)).getD 0
  let v := fun j => (tq f n (s.2 + j)).2.2.2
  if wx (tq f n s.2) = 2 then (p_kn f n (bNm B) (bK B) (bPm B) (bP B) s, b_k B (v 1) (wx (tq f n (s.2 + 2)) - 15) (v 4))
  else if wx (tq f n s.2) = 4 then (p_pr f n (bNm B) (bK B) (bSt B) 16 s, b_s B (o 1) (o 2))
  else if wx (tq f n s.2) = 5 then (p_pr f n (bNm B) (bK B) (bAg B) 12 s, b_a B (o 1) (o 2))
  else if wx (tq f n s.2) = 6 then (p_pn f n (bNm B) (bK B) (bPm B) (bP B) s, b_p B (v 1) (v 3) (o 5))
  else if wx (tq f n s.2) = 9 then (p_lu f n (¬ bL B = none) s, b_l B (l_z f n s).2.2.2.2.2)
  else (fl f n 1 s, B)
def p_net (f : Nat → Nat) (n : Nat) : Nat → rd × sp_B → rd × sp_B
  | 0, x => x
  | m + 1, x => if x.1.1 = 0 ∧ ¬ (tq f n x.1.2).1 = 0 then p_net f n m (p_ln f n x) else x
/-! a Net holds what is told -/
def hs_Bk (I : Nat → Nat → Int32) (t : Nat) (B : sp_B) : Prop := (∀ i, i < bK B → I (t + 2) i = nI (bKd B i) ∧ I (t + 3) i = nI (bHd B i)) ∧ I (t + 11 + 1) = bSt B ∧ I (t + 4) = bAg B
def hs_Bp (I : Nat → Nat → Int32) (t : Nat) (B : sp_B) : Prop := (∀ p, p < bP B → I (t + 11 + 2) p = nI (bWl B p) ∧ I (t + 11 + 3) p = nI (bPl B p)) ∧ (∀ p, bP B ≤ p → I (t + 11 + 2) p = 0) ∧ (∀ p, bP B ≤ p → p < 4 → I (t + 11 + 3) p = -1) ∧ (∀ p, 4 ≤ p → I (t + 11 + 3) p = 0) ∧ (∀ p, I (t + 11 + 4) p = 0) ∧ I (t + 11) 5 = 0 ∧ I (t + 11) 6 = 0
def hs_Bl (I : Nat → Nat → Int32) (t : Nat) (L : Option (List Int32)) : Prop := match L with
  | none => I t 6 = 0 ∧ I (t + 6) 1 = nI 1 ∧ I (t + 7) 0 = 1
  | some C => I t 6 = 1 ∧ I (t + 6) 1 = nI C.length ∧ ev_in (I (t + 7)) C ∧ C.length ≤ 1000
def hs_Bx (I : Nat → Nat → Int32) (J : Nat → Nat → Int64) (t : Nat) (B : sp_B) : Prop := hs_Nn I J t (bK B) (bNm B) (bP B) (bPm B) ∧ hs_Bk I t B ∧ hs_Bp I t B ∧ hs_Bl I t (bL B)
/-- sets of knots in both rows of pairs -/
def hs_Bw (B : sp_B) : Prop := (∀ k, k < bK B → ∃ i : Nat, i < 2 ^ bK B ∧ bSt B k = nI i) ∧ (∀ k, bK B ≤ k → bSt B k = 0) ∧ hs_ns (bSt B) ∧ (∀ k, k < bK B → sp_lt (bK B) (bAg B k)) ∧ (∀ k, bK B ≤ k → bAg B k = 0) ∧ (∀ p, p < bP B → bWl B p ≤ 40 ∧ bPl B p < bK B) ∧ (∀ k, k < bK B → bKd B k ≤ 3 ∧ bHd B k ≤ 20) ∧ bK B ≤ 8 ∧ bP B ≤ 4
/-- what the reading of a net may change -/
def hs_rn (I : Nat → Nat → Int32) (J : Nat → Nat → Int64) (R : Nat → Nat → Option Nat) (I' : Nat → Nat → Int32) (J' : Nat → Nat → Int64) (R' : Nat → Nat → Option Nat) (t : Nat) : Prop := (∀ b, b ≠ 1 → b ≠ 3 → b < t ∨ t + 15 < b → I' b = I b) ∧ (∀ b, b ≠ 1 → b ≠ t + 1 → b ≠ t + 5 → J' b = J b) ∧ (∀ b, b ≠ 1 → R' b = R b) ∧ ∀ i, i ≠ 5 → R' 1 i = R 1 i
theorem hs_rn_t {I2 : Nat → Nat → Int32} {J2 : Nat → Nat → Int64} {R2 : Nat → Nat → Option Nat} {t : Nat} (h : hs_rn I J R I' J' R' t) (g : hs_rn I' J' R' I2 J2 R2 t) : hs_rn I J R I2 J2 R2 t :=
  ⟨fun b b1 b3 bt => (g.1 b b1 b3 bt).trans (h.1 b b1 b3 bt), fun b b1 bt b5 => (g.2.1 b b1 bt b5).trans (h.2.1 b b1 bt b5), fun b b1 => (g.2.2.1 b b1).trans (h.2.2.1 b b1), fun i hi => (g.2.2.2 i hi).trans (h.2.2.2 i hi)⟩
theorem hs_rn_rf {t : Nat} (g : hs_rf I J R I' J' R') : hs_rn I J R I' J' R' t := ⟨fun b b1 b3 _ => g.1 b b1 b3, fun b b1 _ _ => g.2.1 b b1, g.2.2.1, g.2.2.2⟩
/-- the same where the rows are the same -/
theorem hs_Bx_c {t : Nat} {B : sp_B} (h : hs_Bx I J t B) (g : ∀ b, t ≤ b → b ≤ t + 15 → I' b = I b) (gJ1 : J' (t + 1) = J (t + 1)) (gJ5 : J' (t + 5) = J (t + 5)) : hs_Bx I' J' t B := by
  have e0 := g t (by omega) (by omega)
  have e2 := g (t + 2) (by omega) (by omega)
  have e3 := g (t + 3) (by omega) (by omega)
  have e4 := g (t + 4) (by omega) (by omega)
  have e6 := g (t + 6) (by omega) (by omega)
  have e7 := g (t + 7) (by omega) (by omega)
  have e11 := g (t + 11) (by omega) (by omega)
  have e12 := g (t + 11 + 1) (by omega) (by omega)
  have e13 := g (t + 11 + 2) (by omega) (by omega)
  have e14 := g (t + 11 + 3) (by omega) (by omega)
  have e15 := g (t + 11 + 4) (by omega) (by omega)
  unfold hs_Bx hs_Nn hs_Bk hs_Bp hs_Bl at h ⊢
  rw [e0, e2, e3, e4, e6, e7, e11, e12, e13, e14, e15, gJ1, gJ5]
  exact h
theorem hs_Bx_rf {t : Nat} {B : sp_B} (h : hs_Bx I J t B) (ht : t = 4 ∨ t = 20) (g : hs_rf I J R I' J' R') : hs_Bx I' J' t B :=
  hs_Bx_c h (fun b h1 h2 => g.1 b (by omega) (by omega)) (g.2.1 _ (by omega)) (g.2.1 _ (by omega))
theorem upN_s {f : Nat → Nat} {k v i : Nat} (h : i ≠ k) : upN f k v i = f i := if_neg h
theorem upN_e {f : Nat → Nat} {k v : Nat} : upN f k v k = v := if_pos rfl
/-- a knot more -/
theorem hs_Bx_k {t nm kd hd : Nat} {B : sp_B} (h : hs_Bx I J t B) (h8 : bK B < 8) (hv : nm < 2000000000000) : hs_Bx (hn_u (hn_u (hn_u I (t + 2) (bK B) (nI kd)) (t + 3) (bK B) (nI hd)) t 0 (nI (bK B + 1))) (hn_u J (t + 1) (bK B) (nJ nm)) t (b_k B nm kd hd) := by
  obtain ⟨I2, hI2⟩ : ∃ z, z = hn_u (hn_u (hn_u I (t + 2) (bK B) (nI kd)) (t + 3) (bK B) (nI hd)) t 0 (nI (bK B + 1)) := ⟨_, rfl⟩
  rw [← hI2]
  have ef : ∀ b, b ≠ t → b ≠ t + 2 → b ≠ t + 3 → I2 b = I b := fun b b0 b2 b3 => by rw [hI2, hn_u_ne _ _ _ b0, hn_u_ne _ _ _ b3, hn_u_ne _ _ _ b2]
  have e0 : I2 t = va_up (I t) 0 (nI (bK B + 1)) := by rw [hI2, hn_u_eq, hn_u_ne _ _ _ (show t ≠ t + 3 by omega), hn_u_ne _ _ _ (show t ≠ t + 2 by omega)]
  have e2 : I2 (t + 2) = va_up (I (t + 2)) (bK B) (nI kd) := by rw [hI2, hn_u_ne _ _ _ (show t + 2 ≠ t by omega), hn_u_ne _ _ _ (show t + 2 ≠ t + 3 by omega), hn_u_eq]
  have e3 : I2 (t + 3) = va_up (I (t + 3)) (bK B) (nI hd) := by rw [hI2, hn_u_ne _ _ _ (show t + 3 ≠ t by omega), hn_u_eq, hn_u_ne _ _ _ (show t + 3 ≠ t + 2 by omega)]
  have e4 := ef (t + 4) (by omega) (by omega) (by omega)
  have e6 := ef (t + 6) (by omega) (by omega) (by omega)
  have e7 := ef (t + 7) (by omega) (by omega) (by omega)
  have e11 := ef (t + 11) (by omega) (by omega) (by omega)
  have e12 := ef (t + 11 + 1) (by omega) (by omega) (by omega)
  have e13 := ef (t + 11 + 2) (by omega) (by omega) (by omega)
  have e14 := ef (t + 11 + 3) (by omega) (by omega) (by omega)
  have e15 := ef (t + 11 + 4) (by omega) (by omega) (by omega)
  obtain ⟨⟨a1, a2, a3, a4, a5, a6⟩, ⟨b1, b2, b3⟩, hp, hl⟩ := h
  refine ⟨⟨?_, ?_, ?_, ?_, a5, ?_⟩, ⟨?_, ?_, ?_⟩, ?_, ?_⟩
  · rw [e0, va_up, if_pos rfl]; rfl
  · show bK B + 1 ≤ 8; omega
  · intro i hi
    have hi : i < bK B + 1 := hi
    show hn_u J (t + 1) (bK B) (nJ nm) (t + 1) i = nJ (upN (bNm B) (bK B) nm i) ∧ upN (bNm B) (bK B) nm i < 2000000000000
    rw [hn_u_eq, va_up, upN]
    by_cases hk : i = bK B
    · rw [if_pos hk, if_pos hk]; exact ⟨rfl, hv⟩
    · rw [if_neg hk, if_neg hk]; exact a3 i (by omega)
  · rw [e11]; exact a4
  · intro i hi
    rw [hn_u_ne _ _ _ (show t + 5 ≠ t + 1 by omega)]
    exact a6 i hi
  · intro i hi
    have hi : i < bK B + 1 := hi
    rw [e2, e3]
    show va_up (I (t + 2)) (bK B) (nI kd) i = nI (upN (bKd B) (bK B) kd i) ∧ va_up (I (t + 3)) (bK B) (nI hd) i = nI (upN (bHd B) (bK B) hd i)
    rw [va_up, va_up, upN, upN]
    by_cases hk : i = bK B
    · rw [if_pos hk, if_pos hk, if_pos hk, if_pos hk]; exact ⟨rfl, rfl⟩
    · rw [if_neg hk, if_neg hk, if_neg hk, if_neg hk]; exact b1 i (by omega)
  · rw [e12]; exact b2
  · rw [e4]; exact b3
  · unfold hs_Bp at hp ⊢
    rw [e11, e13, e14, e15]
    exact hp
  · have e06 : I2 t 6 = I t 6 := by rw [e0, va_up, if_neg (by omega)]
    unfold hs_Bl at hl ⊢
    rw [e06, e6, e7]
    exact hl
/-- a person more -/
theorem hs_Bx_p {t nm wl pl : Nat} {B : sp_B} (h : hs_Bx I J t B) (h8 : bP B < 4) (hv : nm < 2000000000000) : hs_Bx (hn_u (hn_u (hn_u I (t + 11 + 2) (bP B) (nI wl)) (t + 11 + 3) (bP B) (nI pl)) (t + 11) 4 (nI (bP B + 1))) (hn_u J (t + 5) (bP B) (nJ nm)) t (b_p B nm wl pl) := by
  obtain ⟨I2, hI2⟩ : ∃ z, z = hn_u (hn_u (hn_u I (t + 11 + 2) (bP B) (nI wl)) (t + 11 + 3) (bP B) (nI pl)) (t + 11) 4 (nI (bP B + 1)) := ⟨_, rfl⟩
  rw [← hI2]
  have ef : ∀ b, b ≠ t + 11 → b ≠ t + 11 + 2 → b ≠ t + 11 + 3 → I2 b = I b := fun b b0 b2 b3 => by rw [hI2, hn_u_ne _ _ _ b0, hn_u_ne _ _ _ b3, hn_u_ne _ _ _ b2]
  have e11 : I2 (t + 11) = va_up (I (t + 11)) 4 (nI (bP B + 1)) := by rw [hI2, hn_u_eq, hn_u_ne _ _ _ (show t + 11 ≠ t + 11 + 3 by omega), hn_u_ne _ _ _ (show t + 11 ≠ t + 11 + 2 by omega)]
  have e13 : I2 (t + 11 + 2) = va_up (I (t + 11 + 2)) (bP B) (nI wl) := by rw [hI2, hn_u_ne _ _ _ (show t + 11 + 2 ≠ t + 11 by omega), hn_u_ne _ _ _ (show t + 11 + 2 ≠ t + 11 + 3 by omega), hn_u_eq]
  have e14 : I2 (t + 11 + 3) = va_up (I (t + 11 + 3)) (bP B) (nI pl) := by rw [hI2, hn_u_ne _ _ _ (show t + 11 + 3 ≠ t + 11 by omega), hn_u_eq, hn_u_ne _ _ _ (show t + 11 + 3 ≠ t + 11 + 2 by omega)]
  have e0 := ef t (by omega) (by omega) (by omega)
  have e2 := ef (t + 2) (by omega) (by omega) (by omega)
  have e3 := ef (t + 3) (by omega) (by omega) (by omega)
  have e4 := ef (t + 4) (by omega) (by omega) (by omega)
  have e6 := ef (t + 6) (by omega) (by omega) (by omega)
  have e7 := ef (t + 7) (by omega) (by omega) (by omega)
  have e12 := ef (t + 11 + 1) (by omega) (by omega) (by omega)
  have e15 := ef (t + 11 + 4) (by omega) (by omega) (by omega)
  obtain ⟨⟨a1, a2, a3, a4, a5, a6⟩, hk, ⟨p1, p2, p3, p4, p5, p6, p7⟩, hl⟩ := h
  refine ⟨⟨?_, a2, ?_, ?_, ?_, ?_⟩, ?_, ⟨?_, ?_, ?_, ?_, ?_, ?_, ?_⟩, ?_⟩
  · rw [e0]; exact a1
  · intro i hi
    rw [hn_u_ne _ _ _ (show t + 1 ≠ t + 5 by omega)]
    exact a3 i hi
  · rw [e11, va_up, if_pos rfl]; rfl
  · show bP B + 1 ≤ 4; omega
  · intro i hi
    have hi : i < bP B + 1 := hi
    show hn_u J (t + 5) (bP B) (nJ nm) (t + 5) i = nJ (upN (bPm B) (bP B) nm i) ∧ upN (bPm B) (bP B) nm i < 2000000000000
    rw [hn_u_eq, va_up, upN]
    by_cases hk : i = bP B
    · rw [if_pos hk, if_pos hk]; exact ⟨rfl, hv⟩
    · rw [if_neg hk, if_neg hk]; exact a6 i (by omega)
  · unfold hs_Bk at hk ⊢
    rw [e2, e3, e4, e12]
    exact hk
  · intro i hi
    have hi : i < bP B + 1 := hi
    rw [e13, e14]
    show va_up (I (t + 11 + 2)) (bP B) (nI wl) i = nI (upN (bWl B) (bP B) wl i) ∧ va_up (I (t + 11 + 3)) (bP B) (nI pl) i = nI (upN (bPl B) (bP B) pl i)
    rw [va_up, va_up, upN, upN]
    by_cases hk : i = bP B
    · rw [if_pos hk, if_pos hk, if_pos hk, if_pos hk]; exact ⟨rfl, rfl⟩
    · rw [if_neg hk, if_neg hk, if_neg hk, if_neg hk]; exact p1 i (by omega)
  · intro i hi
    have hi : bP B + 1 ≤ i := hi
    rw [e13, va_up, if_neg (by omega)]; exact p2 i (by omega)
  · intro i hi h4
    have hi : bP B + 1 ≤ i := hi
    rw [e14, va_up, if_neg (by omega)]; exact p3 i (by omega) h4
  · intro i hi
    rw [e14, va_up, if_neg (by omega)]; exact p4 i hi
  · intro i
    rw [e15]; exact p5 i
  · rw [e11, va_up, if_neg (by omega)]; exact p6
  · rw [e11, va_up, if_neg (by omega)]; exact p7
  · unfold hs_Bl at hl ⊢
    rw [e0, e6, e7]
    exact hl
/-- a pair more -/
theorem hs_Bx_s {t a b : Nat} {B : sp_B} (h : hs_Bx I J t B) : hs_Bx (hn_u I (t + 11 + 1) a (bSt B a ||| ((1 : Int32) <<< (nI b &&& 31)))) J t (b_s B a b) := by
  obtain ⟨I2, hI2⟩ : ∃ z, z = hn_u I (t + 11 + 1) a (bSt B a ||| ((1 : Int32) <<< (nI b &&& 31))) := ⟨_, rfl⟩
  rw [← hI2]
  have ef : ∀ b, b ≠ t + 11 + 1 → I2 b = I b := fun b b0 => by rw [hI2, hn_u_ne _ _ _ b0]
  obtain ⟨hn, ⟨b1, b2, b3⟩, hp, hl⟩ := h
  refine ⟨?_, ⟨?_, ?_, ?_⟩, ?_, ?_⟩
  · unfold hs_Nn at hn ⊢
    rw [ef t (by omega), ef (t + 11) (by omega)]
    exact hn
  · intro i hi
    rw [ef (t + 2) (by omega), ef (t + 3) (by omega)]
    exact b1 i hi
  · rw [hI2, hn_u_eq, b2]; rfl
  · rw [ef (t + 4) (by omega)]; exact b3
  · unfold hs_Bp at hp ⊢
    rw [ef (t + 11) (by omega), ef (t + 11 + 2) (by omega), ef (t + 11 + 3) (by omega), ef (t + 11 + 4) (by omega)]
    exact hp
  · unfold hs_Bl at hl ⊢
    rw [ef t (by omega), ef (t + 6) (by omega), ef (t + 7) (by omega)]
    exact hl
theorem hs_Bx_a {t a b : Nat} {B : sp_B} (h : hs_Bx I J t B) : hs_Bx (hn_u I (t + 4) a (bAg B a ||| ((1 : Int32) <<< (nI b &&& 31)))) J t (b_a B a b) := by
  obtain ⟨I2, hI2⟩ : ∃ z, z = hn_u I (t + 4) a (bAg B a ||| ((1 : Int32) <<< (nI b &&& 31))) := ⟨_, rfl⟩
  rw [← hI2]
  have ef : ∀ b, b ≠ t + 4 → I2 b = I b := fun b b0 => by rw [hI2, hn_u_ne _ _ _ b0]
  obtain ⟨hn, ⟨b1, b2, b3⟩, hp, hl⟩ := h
  refine ⟨?_, ⟨?_, ?_, ?_⟩, ?_, ?_⟩
  · unfold hs_Nn at hn ⊢
    rw [ef t (by omega), ef (t + 11) (by omega)]
    exact hn
  · intro i hi
    rw [ef (t + 2) (by omega), ef (t + 3) (by omega)]
    exact b1 i hi
  · rw [ef (t + 11 + 1) (by omega)]; exact b2
  · rw [hI2, hn_u_eq, b3]; rfl
  · unfold hs_Bp at hp ⊢
    rw [ef (t + 11) (by omega), ef (t + 11 + 2) (by omega), ef (t + 11 + 3) (by omega), ef (t + 11 + 4) (by omega)]
    exact hp
  · unfold hs_Bl at hl ⊢
    rw [ef t (by omega), ef (t + 6) (by omega), ef (t + 7) (by omega)]
    exact hl
/-- the law told -/
theorem hs_Bx_l {t : Nat} {C : List Int32} {B : sp_B} (h : hs_Bx I J t B) (ht : t = 4 ∨ t = 20) (g : hs_r4 I J R I' J' R' t) (h6 : I' t 6 = 1 ∧ I' (t + 6) 1 = nI C.length ∧ ev_in (I' (t + 7)) C ∧ C.length ≤ 1000) : hs_Bx I' J' t (b_l B C) := by
  have ef : ∀ b, t ≤ b → b ≤ t + 15 → b ≠ t → b ≠ t + 6 → b ≠ t + 7 → b ≠ t + 8 → I' b = I b := fun b h1 h2 b0 b6 b7 b8 => g.1 b (by omega) (by omega) b0 b6 b7 b8
  obtain ⟨hn, hk, hp, _⟩ := h
  refine ⟨?_, ?_, ?_, h6⟩
  · unfold hs_Nn at hn ⊢
    rw [g.2.1 0 (by omega), ef (t + 11) (by omega) (by omega) (by omega) (by omega) (by omega) (by omega), g.2.2.1 (t + 1) (by omega), g.2.2.1 (t + 5) (by omega)]
    exact hn
  · unfold hs_Bk at hk ⊢
    rw [ef (t + 2) (by omega) (by omega) (by omega) (by omega) (by omega) (by omega), ef (t + 3) (by omega) (by omega) (by omega) (by omega) (by omega) (by omega), ef (t + 4) (by omega) (by omega) (by omega) (by omega) (by omega) (by omega), ef (t + 11 + 1) (by omega) (by omega) (by omega) (by omega) (by omega) (by omega)]
    exact hk
  · unfold hs_Bp at hp ⊢
    rw [ef (t + 11) (by omega) (by omega) (by omega) (by omega) (by omega) (by omega), ef (t + 11 + 2) (by omega) (by omega) (by omega) (by omega) (by omega) (by omega), ef (t + 11 + 3) (by omega) (by omega) (by omega) (by omega) (by omega) (by omega), ef (t + 11 + 4) (by omega) (by omega) (by omega) (by omega) (by omega) (by omega)]
    exact hp
end HNlines
