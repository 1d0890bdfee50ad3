section HNmnets
variable {I I' : Nat → Nat → Int32} {J J' : Nat → Nat → Int64} {R R' : Nat → Nat → Option Nat}
/-! rows copied down -/
def cpf {α : Type} (o : Nat) (r : Nat → α) (k : Nat) : Nat → α := fun j => if j < k then r (o + j) else r j
theorem cpf_0 {α : Type} (o : Nat) (r : Nat → α) : cpf o r 0 = r := funext (fun j => if_neg (Nat.not_lt_zero j))
theorem cpf_s {α : Type} {o : Nat} {r : Nat → α} {k : Nat} : va_up (cpf o r k) k (r (o + k)) = cpf o r (k + 1) := funext (fun j => by
  show (if j = k then r (o + k) else if j < k then r (o + j) else r j) = if j < k + 1 then r (o + j) else r j
  by_cases h1 : j = k
  · rw [if_pos h1, if_pos (by omega), h1]
  · rw [if_neg h1]
    by_cases h2 : j < k
    · rw [if_pos h2, if_pos (by omega)]
    · rw [if_neg h2, if_neg (by omega)])
theorem cpf_k {α : Type} {o : Nat} {r : Nat → α} {k i : Nat} (h : k ≤ i) : cpf o r k i = r i := if_neg (by omega)
def cpg {α : Type} (q r : Nat → α) (k : Nat) : Nat → α := fun j => if j < k then q j else r j
theorem cpg_s {α : Type} {q r : Nat → α} {k : Nat} : va_up (cpg q r k) k (q k) = cpg q r (k + 1) := funext (fun j => by
  show (if j = k then q k else if j < k then q j else r j) = if j < k + 1 then q j else r j
  by_cases h1 : j = k
  · rw [if_pos h1, if_pos (by omega), h1]
  · rw [if_neg h1]
    by_cases h2 : j < k
    · rw [if_pos h2, if_pos (by omega)]
    · rw [if_neg h2, if_neg (by omega)])
/-! the reference's net, told -/
def hs_ML2 (I : Nat → Nat → Int32) (L : Option (List Int32)) : Prop := match L with
  | none => I 194 4 = -1
  | some C => I 194 4 = 0 ∧ (∀ i, i < C.length → mc_rel (I 195 i) (I 196 i) (C.getD (C.length - 1 - i) 0)) ∧ I 195 C.length = 0 ∧ C.length ≤ 1000
def hs_MB (I : Nat → Nat → Int32) (J : Nat → Nat → Int64) (B : sp_B) : Prop := I 194 0 = nI (bK B) ∧ I 194 3 = nI (bP B) ∧ (∀ k, k < bK B → I 194 (5 + 4 * k) = nI (bKd B k) ∧ I 194 (6 + 4 * k) = nI (bHd B k) ∧ I 194 (7 + 4 * k) = bSt B k ∧ I 194 (8 + 4 * k) = bAg B k) ∧ (∀ p, p < bP B → I 194 (40 + 2 * p) = nI (bWl B p) ∧ I 194 (41 + 2 * p) = nI (bPl B p)) ∧ hs_Jt (J 197) (I 199) (bK B + bP B) (bK B) (bNm B) (bP B) (bPm B) ∧ I 188 18 = nI (bK B + bP B) ∧ hs_ML2 I (bL B)
theorem hs_MB_c {B : sp_B} (h : hs_MB I J B) (g194 : I' 194 = I 194) (g195 : I' 195 = I 195) (g196 : I' 196 = I 196) (g199 : I' 199 = I 199) (g18 : I' 188 18 = I 188 18) (gJ : J' 197 = J 197) : hs_MB I' J' B := by
  unfold hs_MB hs_ML2 at h ⊢
  rw [g194, g195, g196, g199, g18, gJ]
  exact h
/-- what a net not understood may change -/
def hs_f1 (I : Nat → Nat → Int32) (J : Nat → Nat → Int64) (I' : Nat → Nat → Int32) (J' : Nat → Nat → Int64) : Prop := (∀ b, b ≠ 188 → b ≠ 190 → b ≠ 191 → b ≠ 194 → b ≠ 195 → b ≠ 196 → b ≠ 200 → I' b = I b) ∧ (∀ i, i ≠ 0 → i ≠ 2 → i ≠ 3 → i ≠ 7 → i ≠ 8 → i ≠ 13 → i ≠ 19 → I' 188 i = I 188 i) ∧ (∀ j, j < 60 → I' 194 j = I 194 j) ∧ (∀ j, j < 1100 → I' 195 j = I 195 j ∧ I' 196 j = I 196 j) ∧ ∀ b, b ≠ 192 → b ≠ 198 → J' b = J b
def hs_f2 (I : Nat → Nat → Int32) (J : Nat → Nat → Int64) (I' : Nat → Nat → Int32) (J' : Nat → Nat → Int64) : Prop := (∀ b, b < 190 → b ≠ 188 → I' b = I b) ∧ (∀ b, 206 ≤ b → I' b = I b) ∧ (∀ b, b = 202 ∨ b = 203 → I' b = I b) ∧ ∀ b, b ≠ 192 → b ≠ 197 → b ≠ 198 → J' b = J b
def hs_Zm (I : Nat → Nat → Int32) (J : Nat → Nat → Int64) (R : Nat → Nat → Option Nat) (Z : rd × sp_B) (D' : hnD) : Prop := ∃ I2 J2, D' = (I2, J2, R) ∧ I2 188 2 = 0 ∧ I2 188 0 = 0 ∧ ((¬ Z.1.1 = 0 ∧ hs_f1 I J I2 J2) ∨ (Z.1.1 = 0 ∧ hs_Bq Z.2 ∧ hs_MB I2 J2 Z.2 ∧ (∃ I1, hs_bg I1 I2 (b_Q Z.2)) ∧ hs_f2 I J I2 J2))
theorem hs_f1_t {I2 : Nat → Nat → Int32} {J2 : Nat → Nat → Int64} (h : hs_f1 I J I' J') (g : hs_mn I' J' I2 J2) : hs_f1 I J I2 J2 := ⟨fun b h1 h2 h3 h4 h5 h6 h7 => (g.1 b h1 h4 h5 h6 h7).trans (h.1 b h1 h2 h3 h4 h5 h6 h7), fun i i0 i2 i3 i7 i8 i13 i19 => (g.2.1 i i7 i8 i13 i19).trans (h.2.1 i i0 i2 i3 i7 i8 i13 i19), fun j hj => (g.2.2.1 j hj).trans (h.2.2.1 j hj), fun j hj => ⟨(g.2.2.2.1 j hj).1.trans (h.2.2.2.1 j hj).1, (g.2.2.2.1 j hj).2.trans (h.2.2.2.1 j hj).2⟩, fun b h1 h2 => (g.2.2.2.2 b h2).trans (h.2.2.2.2 b h1 h2)⟩
/-- behind the last copy: names -/
theorem mnet_186 {B : sp_B} {Z : rd × sp_B} {I0 I5 : Nat → Nat → Int32} {J0 J5 : Nat → Nat → Int64} {P : Option Value → hnD → Prop} {v : Value} (hM : hs_M R) (hP : P = fun r D' => r = some (.int (nI Z.1.1)) ∧ Z.1.1 < 20000 ∧ hs_Zm I J R Z D') (hZ0 : Z.1.1 = 0) (hZ : Z.2 = B) (hq : hs_Bq B) (hB : hs_Bm I0 J0 B) (hf : hs_f1 I J I0 J0) (h2 : I0 188 2 = 0) (h00 : I0 188 0 = 0) (e194 : I5 194 = cpf 60 (I0 194) 60) (e195 : ∃ c, I0 188 13 = nI c ∧ I5 195 = cpf 1100 (I0 195) c ∧ I5 196 = cpf 1100 (I0 196) c) (eJ : J5 197 = cpg (J0 198) (J0 197) (bK B + bP B)) (e199 : I5 199 = cpg (I0 200) (I0 199) (bK B + bP B)) (eb : ∀ b, b ≠ 194 → b ≠ 195 → b ≠ 196 → b ≠ 199 → I5 b = I0 b) (eJb : ∀ b, b ≠ 197 → J5 b = J0 b) : hn_B 35 hm_M_net P 186 [.ref 188, v] [] (I5, J5, R) := by
  obtain ⟨b1, ⟨_, _, _, _⟩, ⟨_, _, _, _⟩, b4, b5, b6, b7, bj, b9, bl⟩ := hB
  obtain ⟨hw, hj, hc⟩ := hq
  have hkn := hj.1
  have hpn := hj.2.1
  have a : ∀ j, j < 60 → I5 194 j = I0 194 (60 + j) := fun j hj => by rw [e194]; exact if_pos hj
  obtain ⟨I6, hI6⟩ : ∃ z, z = hn_u I5 188 18 (nI (bK B + bP B)) := ⟨_, rfl⟩
  have f6 : ∀ b, b ≠ 188 → I6 b = I5 b := fun b hb => by rw [hI6, hn_u_ne _ _ _ hb]
  have hS : ∀ k, k < bK B → I6 194 (5 + 4 * k) = nI (bKd B k) ∧ I6 194 (6 + 4 * k) = nI (bHd B k) ∧ I6 194 (7 + 4 * k) = bSt B k ∧ I6 194 (8 + 4 * k) = bAg B k := fun k hk => by
    rw [f6 194 (by omega), a _ (by omega), a _ (by omega), a _ (by omega), a _ (by omega), show 60 + (5 + 4 * k) = 65 + 4 * k by omega, show 60 + (6 + 4 * k) = 66 + 4 * k by omega, show 60 + (7 + 4 * k) = 67 + 4 * k by omega, show 60 + (8 + 4 * k) = 68 + 4 * k by omega]
    exact ⟨(b5 k hk).1, (b5 k hk).2, (b6 k (by omega)).1, (b6 k (by omega)).2⟩
  have hPp : ∀ p, p < bP B → I6 194 (40 + 2 * p) = nI (bWl B p) ∧ I6 194 (41 + 2 * p) = nI (bPl B p) := fun p hp => by
    rw [f6 194 (by omega), a _ (by omega), a _ (by omega), show 60 + (40 + 2 * p) = 100 + 2 * p by omega, show 60 + (41 + 2 * p) = 101 + 2 * p by omega]
    exact b7 p hp
  have n0 : I6 194 0 = nI (bK B) := by rw [f6 194 (by omega), a 0 (by omega)]; exact b1
  have n3 : I6 194 3 = nI (bP B) := by rw [f6 194 (by omega), a 3 (by omega)]; exact b4
  have hSm : hs_Sm I6 (bK B, bP B, fun _ => 0, fun _ => 0, fun _ => 0, fun _ => 0, 0) (b_Q B) := ⟨fun k hk => (hS k hk).2.2.1, fun p hp => ⟨(hPp p hp).1.trans (if_pos hp).symm, (hPp p hp).2.trans (if_pos hp).symm⟩, fun _ => rfl, rfl⟩
  have hMB : hs_MB I6 J5 B := by
    refine ⟨n0, n3, hS, hPp, ?_, by rw [hI6, hn_u_eq, va_up, if_pos rfl], ?_⟩
    · rw [f6 199 (by omega), e199, eJ]
      obtain ⟨j1, j2, j3, j4⟩ := bj
      have x1 : ∀ j, j < bK B + bP B → cpg (J0 198) (J0 197) (bK B + bP B) j = J0 198 j := fun j hj => if_pos hj
      have x2 : ∀ j, j < bK B + bP B → cpg (I0 200) (I0 199) (bK B + bP B) j = I0 200 j := fun j hj => if_pos hj
      refine ⟨j1, fun j hj => ?_, fun i hi => ?_, fun p hp => ?_⟩
      · rw [x1 j hj, x2 j hj]; exact j2 j hj
      · obtain ⟨j, hj, e⟩ := j3 i hi
        exact ⟨j, hj, by rw [x1 j hj]; exact e⟩
      · obtain ⟨j, hj, e⟩ := j4 p hp
        exact ⟨j, hj, by rw [x1 j hj]; exact e⟩
    · obtain ⟨c, c1, c2, c3⟩ := e195
      cases hL : bL B with
      | none =>
        rw [hL] at bl
        show I6 194 4 = -1
        rw [f6 194 (by omega), a 4 (by omega)]
        exact bl.1
      | some C =>
        rw [hL] at bl
        obtain ⟨l1, l2, l3, l4, l5⟩ := bl
        rw [c1] at l2
        have ec : c < 2147483648 → c = C.length + 1 := fun h => (hi_nIe h (by omega)).mp l2
        have y1 : ∀ j, j < c → I6 195 j = I0 195 (1100 + j) := fun j hj => by rw [f6 195 (by omega), c2]; exact if_pos hj
        have y2 : ∀ j, j < c → I6 196 j = I0 196 (1100 + j) := fun j hj => by rw [f6 196 (by omega), c3]; exact if_pos hj
        show I6 194 4 = 0 ∧ (∀ i, i < C.length → mc_rel (I6 195 i) (I6 196 i) (C.getD (C.length - 1 - i) 0)) ∧ I6 195 C.length = 0 ∧ C.length ≤ 1000
        by_cases hcc : c < 2147483648
        · have ec := ec hcc
          exact ⟨by rw [f6 194 (by omega), a 4 (by omega)]; exact l1, fun i hi => by rw [y1 i (by omega), y2 i (by omega)]; exact l3 i hi, by rw [y1 _ (by omega)]; exact l4, l5⟩
        · exact ⟨by rw [f6 194 (by omega), a 4 (by omega)]; exact l1, fun i hi => by rw [y1 i (by omega), y2 i (by omega)]; exact l3 i hi, by rw [y1 _ (by omega)]; exact l4, l5⟩
  have i19 : I5 188 19 = nI (bK B + bP B) := by rw [eb 188 (by omega) (by omega) (by omega) (by omega)]; exact b9
  refine b_aload_n rfl rfl ?_
  refine b_aload_n rfl rfl ?_
  refine b_getI rfl (by first | rfl | assumption) rfl ?_
  rw [i19]
  refine b_putI rfl (by first | rfl | assumption) rfl rfl ⟨rfl, rfl⟩ ?_
  rw [← hI6]
  refine b_aload_n rfl rfl ?_
  refine b_callV rfl rfl hk_M_begins rfl rfl rfl (by first | rfl | assumption) rfl (Nat.le_of_ble_eq_true rfl) (q_M_begins (N := (bK B, bP B, fun _ => 0, fun _ => 0, fun _ => 0, fun _ => 0, 0)) (S := b_Q B) hM n0 hkn n3 hpn hSm (b_Qw hw)) (Nat.le_of_ble_eq_true rfl) (fun r_195 D_195 q_195 => ?_)
  obtain ⟨rfl, I7, rfl, bg⟩ := q_195
  have b188 : ∀ i, i ≠ 24 → i ≠ 26 → i ≠ 18 → I7 188 i = I0 188 i := (fun i h1 h2 h3 => by rw [bg.2.2.2.2.2.2.2.2 i h1 h2, hI6, hn_u_eq, va_up, if_neg h3, eb 188 (by omega) (by omega) (by omega) (by omega)])
  have bb : ∀ b, b ≠ 188 → b ≠ 201 → b ≠ 204 → b ≠ 205 → I7 b = I6 b := bg.2.2.2.2.2.2.2.1
  have b0 : ∀ b, b ≠ 188 → b ≠ 194 → b ≠ 195 → b ≠ 196 → b ≠ 199 → b ≠ 201 → b ≠ 204 → b ≠ 205 → I7 b = I0 b := (fun b h1 h2 h3 h4 h5 h6 h7 h8 => by rw [bb b h1 h6 h7 h8, f6 b h1, eb b h2 h3 h4 h5])
  refine b_iconst rfl ?_
  exact b_ireturn rfl trivial ((by rw [hP]; exact ⟨by rw [hZ0]; rfl, by omega, I7, J5, rfl, by rw [b188 2 (by omega) (by omega) (by omega)]; exact h2, by rw [b188 0 (by omega) (by omega) (by omega)]; exact h00, Or.inr ⟨hZ0, by rw [hZ]; exact ⟨hw, hj, hc⟩, by rw [hZ]; exact hs_MB_c hMB (bb 194 (by omega) (by omega) (by omega) (by omega)) (bb 195 (by omega) (by omega) (by omega) (by omega)) (bb 196 (by omega) (by omega) (by omega) (by omega)) (bb 199 (by omega) (by omega) (by omega) (by omega)) (bg.2.2.2.2.2.2.2.2 18 (by omega) (by omega)) rfl, by rw [hZ]; exact ⟨I6, bg⟩, ⟨fun b h1 h2 => by rw [b0 b h2 (by omega) (by omega) (by omega) (by omega) (by omega) (by omega) (by omega)]; exact hf.1 b h2 (by omega) (by omega) (by omega) (by omega) (by omega) (by omega), fun b h1 => by rw [b0 b (by omega) (by omega) (by omega) (by omega) (by omega) (by omega) (by omega) (by omega)]; exact hf.1 b (by omega) (by omega) (by omega) (by omega) (by omega) (by omega) (by omega), fun b h1 => by rw [b0 b (by omega) (by omega) (by omega) (by omega) (by omega) (by omega) (by omega) (by omega)]; exact hf.1 b (by omega) (by omega) (by omega) (by omega) (by omega) (by omega) (by omega), fun b h1 h2 h3 => by rw [eJb b h2]; exact hf.2.2.2.2 b h1 h3⟩⟩⟩))
theorem mnet_69 {B : sp_B} {Z : rd × sp_B} {I0 : Nat → Nat → Int32} {J0 : Nat → Nat → Int64} {P : Option Value → hnD → Prop} (hM : hs_M R) (hP : P = fun r D' => r = some (.int (nI Z.1.1)) ∧ Z.1.1 < 20000 ∧ hs_Zm I J R Z D') (hZ0 : Z.1.1 = 0) (hZ : Z.2 = B) (hq : hs_Bq B) (hB : hs_Bm I0 J0 B) (hf : hs_f1 I J I0 J0) (h2 : I0 188 2 = 0) (h00 : I0 188 0 = 0) : hn_B 35 hm_M_net P 69 [.ref 188, .null] [] (I0, J0, R) := by
  obtain ⟨m1, m4, m5, m6, m9, m10, m11, m12, m14, m15, m16, m17, m20, m21, m22, m23, m25, m27, m28, m29, m30, m31, m32⟩ := id hM
  have hkn := hq.2.1.1
  have hpn := hq.2.1.2.1
  obtain ⟨c, hc, hc1⟩ : ∃ c, I0 188 13 = nI c ∧ c ≤ 1001 := by
    have hl := hB.2.2.2.2.2.2.2.2.2
    cases hL : bL B with
    | none => rw [hL] at hl; exact ⟨0, hl.2.1, by omega⟩
    | some C => rw [hL] at hl; exact ⟨C.length + 1, hl.2.1, by have := hl.2.2.2.2; omega⟩
  obtain ⟨m, hm⟩ : ∃ m, m = bK B + bP B := ⟨_, rfl⟩
  have i19 : I0 188 19 = nI m := by rw [hm]; exact hB.2.2.2.2.2.2.2.2.1
  -- names
  have L3 : ∀ (I4 : Nat → Nat → Int32), I4 194 = cpf 60 (I0 194) 60 → I4 195 = cpf 1100 (I0 195) c → I4 196 = cpf 1100 (I0 196) c → (∀ b, b ≠ 194 → b ≠ 195 → b ≠ 196 → I4 b = I0 b) → hn_B 35 hm_M_net P 148 [.ref 188, .int (nI 0)] [] (I4, J0, R) := by
    intro I4 e1 e2 e3 eb
    have lp : ∀ I5 J5, I5 199 = cpg (I0 200) (I0 199) 0 → J5 197 = cpg (J0 198) (J0 197) 0 → (∀ b, b ≠ 199 → I5 b = I4 b) → (∀ b, b ≠ 197 → J5 b = J0 b) → hn_B 35 hm_M_net P 148 [.ref 188, .int (nI 0)] [] (I5, J5, R) := by
      refine sp_ind m (fun k => ∀ I5 J5, I5 199 = cpg (I0 200) (I0 199) k → J5 197 = cpg (J0 198) (J0 197) k → (∀ b, b ≠ 199 → I5 b = I4 b) → (∀ b, b ≠ 197 → J5 b = J0 b) → hn_B 35 hm_M_net P 148 [.ref 188, .int (nI k)] [] (I5, J5, R)) ?_ ?_
      · intro I5 J5 a1 a2 a3 a4
        have j19 : I5 188 19 = nI m := by rw [a3 188 (by omega), eb 188 (by omega) (by omega) (by omega)]; exact i19
        refine b_iload_n rfl rfl ?_
        refine b_aload_n rfl rfl ?_
        refine b_getI rfl (by first | rfl | assumption) rfl ?_
        rw [j19]
        refine b_icmp_ge rfl (fun c_153 => ?_) (fun c_153 => ?_)
        · exact mnet_186 hM hP hZ0 hZ hq hB hf h2 h00 (by rw [a3 194 (by omega)]; exact e1) ⟨c, hc, by rw [a3 195 (by omega)]; exact e2, by rw [a3 196 (by omega)]; exact e3⟩ (by rw [← hm]; exact a2) (by rw [← hm]; exact a1) (fun b h1 h2 h3 h4 => by rw [a3 b h4, eb b h1 h2 h3]) a4
        · exact absurd (nI_le (Nat.le_refl _) (by omega)) c_153
      · intro k hk ih I5 J5 a1 a2 a3 a4
        have j19 : I5 188 19 = nI m := by rw [a3 188 (by omega), eb 188 (by omega) (by omega) (by omega)]; exact i19
        have s198 : J5 198 = J0 198 := a4 198 (by omega)
        have s200 : I5 200 = I0 200 := by rw [a3 200 (by omega), eb 200 (by omega) (by omega) (by omega)]
        refine b_iload_n rfl rfl ?_
        refine b_aload_n rfl rfl ?_
        refine b_getI rfl (by first | rfl | assumption) rfl ?_
        rw [j19]
        refine b_icmp_ge rfl (fun c_153 => ?_) (fun c_153 => ?_)
        · exact absurd c_153 (nI_ge hk (by omega))
        · refine b_aload_n rfl rfl ?_
          refine b_getR rfl (by first | rfl | assumption) rfl (by assumption) ?_
          refine b_iload_n rfl rfl ?_
          refine b_aload_n rfl rfl ?_
          refine b_getR rfl (by first | rfl | assumption) rfl (by assumption) ?_
          refine b_iload_n rfl rfl ?_
          refine b_laload rfl (by first | rfl | assumption) (by decide) (nI_toInt (n := k) (by omega)) (by omega) ?_
          rw [s198]
          refine b_lastore rfl (by first | rfl | assumption) (by decide) (nI_toInt (n := k) (by omega)) (by omega) ?_
          refine b_aload_n rfl rfl ?_
          refine b_getR rfl (by first | rfl | assumption) rfl (by assumption) ?_
          refine b_iload_n rfl rfl ?_
          refine b_aload_n rfl rfl ?_
          refine b_getR rfl (by first | rfl | assumption) rfl (by assumption) ?_
          refine b_iload_n rfl rfl ?_
          refine b_iaload rfl (by first | rfl | assumption) (nI_toInt (n := k) (by omega)) (by omega) ?_
          rw [s200]
          refine b_iastore rfl (by first | rfl | assumption) (nI_toInt (n := k) (by omega)) (by omega) ?_
          refine b_iinc rfl rfl (Nat.le_of_ble_eq_true rfl) ?_
          refine b_goto rfl ?_
          exact b_lp (ih _ _ (by rw [hn_u_eq, a1]; exact cpg_s) (by rw [hn_u_eq, a2]; exact cpg_s) (fun b hb => by rw [hn_u_ne _ _ _ hb]; exact a3 b hb) (fun b hb => by rw [hn_u_ne _ _ _ hb]; exact a4 b hb)) (le_e (le_q (by rw [nI_succ]) le_0)) rfl rfl
    exact lp I4 J0 (by rw [eb 199 (by omega) (by omega) (by omega)]; exact (funext (fun j => (if_neg (Nat.not_lt_zero j)).symm))) (funext (fun j => (if_neg (Nat.not_lt_zero j)).symm)) (fun _ _ => rfl) (fun _ _ => rfl)
  have L2 : ∀ (I3 : Nat → Nat → Int32), I3 194 = cpf 60 (I0 194) 60 → (∀ b, b ≠ 194 → I3 b = I0 b) → hn_B 35 hm_M_net P 100 [.ref 188, .int (nI 0)] [] (I3, J0, R) := by
    intro I3 e1 eb
    have lp : ∀ I4, I4 195 = cpf 1100 (I0 195) 0 → I4 196 = cpf 1100 (I0 196) 0 → (∀ b, b ≠ 195 → b ≠ 196 → I4 b = I3 b) → hn_B 35 hm_M_net P 100 [.ref 188, .int (nI 0)] [] (I4, J0, R) := by
      refine sp_ind c (fun k => ∀ I4, I4 195 = cpf 1100 (I0 195) k → I4 196 = cpf 1100 (I0 196) k → (∀ b, b ≠ 195 → b ≠ 196 → I4 b = I3 b) → hn_B 35 hm_M_net P 100 [.ref 188, .int (nI k)] [] (I4, J0, R)) ?_ ?_
      · intro I4 a1 a2 a3
        have j13 : I4 188 13 = nI c := by rw [a3 188 (by omega) (by omega), eb 188 (by omega)]; exact hc
        refine b_iload_n rfl rfl ?_
        refine b_aload_n rfl rfl ?_
        refine b_getI rfl (by first | rfl | assumption) rfl ?_
        rw [j13]
        refine b_icmp_ge rfl (fun c_105 => ?_) (fun c_105 => ?_)
        · refine b_iconst rfl ?_
          refine b_istore_n rfl (Nat.le_of_ble_eq_true rfl) ?_
          exact b_lp (L3 I4 (by rw [a3 194 (by omega) (by omega)]; exact e1) a1 a2 (fun b h1 h2 h3 => by rw [a3 b h2 h3, eb b h1])) (le_e (le_q (by rfl) le_0)) rfl rfl
        · exact absurd (nI_le (Nat.le_refl _) (by omega)) c_105
      · intro k hk ih I4 a1 a2 a3
        have j13 : I4 188 13 = nI c := by rw [a3 188 (by omega) (by omega), eb 188 (by omega)]; exact hc
        have ek : (1100 : Int32) + nI k = nI (1100 + k) := (nI_ad 1100 k).symm
        have r1 : I4 195 (1100 + k) = I0 195 (1100 + k) := by rw [a1]; exact cpf_k (by omega)
        have r2 : I4 196 (1100 + k) = I0 196 (1100 + k) := by rw [a2]; exact cpf_k (by omega)
        refine b_iload_n rfl rfl ?_
        refine b_aload_n rfl rfl ?_
        refine b_getI rfl (by first | rfl | assumption) rfl ?_
        rw [j13]
        refine b_icmp_ge rfl (fun c_105 => ?_) (fun c_105 => ?_)
        · exact absurd c_105 (nI_ge hk (by omega))
        · refine b_aload_n rfl rfl ?_
          refine b_getR rfl (by first | rfl | assumption) rfl (by assumption) ?_
          refine b_iload_n rfl rfl ?_
          refine b_aload_n rfl rfl ?_
          refine b_getR rfl (by first | rfl | assumption) rfl (by assumption) ?_
          refine b_sipush rfl ?_
          refine b_iload_n rfl rfl ?_
          refine b_iadd rfl ?_
          rw [ek]
          refine b_iaload rfl (by first | rfl | assumption) (nI_toInt (n := 1100 + k) (by omega)) (by omega) ?_
          rw [r1]
          refine b_iastore rfl (by first | rfl | assumption) (nI_toInt (n := k) (by omega)) (by omega) ?_
          refine b_aload_n rfl rfl ?_
          refine b_getR rfl (by first | rfl | assumption) rfl (by assumption) ?_
          refine b_iload_n rfl rfl ?_
          refine b_aload_n rfl rfl ?_
          refine b_getR rfl (by first | rfl | assumption) rfl (by assumption) ?_
          refine b_sipush rfl ?_
          refine b_iload_n rfl rfl ?_
          refine b_iadd rfl ?_
          rw [ek]
          refine b_iaload rfl (by first | rfl | assumption) (nI_toInt (n := 1100 + k) (by omega)) (by omega) ?_
          have r3 : hn_u I4 195 k (I0 195 (1100 + k)) 196 (1100 + k) = I0 196 (1100 + k) := (by rw [hn_u_ne _ _ _ (by omega)]; exact r2)
          rw [r3]
          refine b_iastore rfl (by first | rfl | assumption) (nI_toInt (n := k) (by omega)) (by omega) ?_
          refine b_iinc rfl rfl (Nat.le_of_ble_eq_true rfl) ?_
          refine b_goto rfl ?_
          exact b_lp (ih _ (by rw [hn_u_ne _ _ _ (by omega), hn_u_eq, a1]; exact cpf_s) (by rw [hn_u_eq, hn_u_ne _ _ _ (by omega), a2]; exact cpf_s) (fun b h1 h2 => by rw [hn_u_ne _ _ _ h2, hn_u_ne _ _ _ h1]; exact a3 b h1 h2)) (le_e (le_q (by rw [nI_succ]) le_0)) rfl rfl
    exact lp I3 (by rw [eb 195 (by omega), cpf_0]) (by rw [eb 196 (by omega), cpf_0]) (fun _ _ _ => rfl)
  have lp : ∀ I3, I3 194 = cpf 60 (I0 194) 0 → (∀ b, b ≠ 194 → I3 b = I0 b) → hn_B 35 hm_M_net P 71 [.ref 188, .int (nI 0)] [] (I3, J0, R) := by
    refine sp_ind 60 (fun k => ∀ I3, I3 194 = cpf 60 (I0 194) k → (∀ b, b ≠ 194 → I3 b = I0 b) → hn_B 35 hm_M_net P 71 [.ref 188, .int (nI k)] [] (I3, J0, R)) ?_ ?_
    · intro I3 a1 a2
      refine b_iload_n rfl rfl ?_
      refine b_bipush rfl ?_
      refine b_icmp_ge rfl (fun c_74 => ?_) (fun c_74 => ?_)
      · refine b_iconst rfl ?_
        refine b_istore_n rfl (Nat.le_of_ble_eq_true rfl) ?_
        exact b_lp (L2 I3 a1 a2) (le_e (le_q (by rfl) le_0)) rfl rfl
      · exact absurd (show (60 : Int32) ≤ nI 60 by decide) c_74
    · intro k hk ih I3 a1 a2
      have ek : (60 : Int32) + nI k = nI (60 + k) := (nI_ad 60 k).symm
      have r1 : I3 194 (60 + k) = I0 194 (60 + k) := by rw [a1]; exact cpf_k (by omega)
      refine b_iload_n rfl rfl ?_
      refine b_bipush rfl ?_
      refine b_icmp_ge rfl (fun c_74 => ?_) (fun c_74 => ?_)
      · exact absurd ((nI_le_c (c := 60) (by omega) (by omega)).mp c_74) (by omega)
      · refine b_aload_n rfl rfl ?_
        refine b_getR rfl (by first | rfl | assumption) rfl (by assumption) ?_
        refine b_iload_n rfl rfl ?_
        refine b_aload_n rfl rfl ?_
        refine b_getR rfl (by first | rfl | assumption) rfl (by assumption) ?_
        refine b_bipush rfl ?_
        refine b_iload_n rfl rfl ?_
        refine b_iadd rfl ?_
        rw [ek]
        refine b_iaload rfl (by first | rfl | assumption) (nI_toInt (n := 60 + k) (by omega)) (by omega) ?_
        rw [r1]
        refine b_iastore rfl (by first | rfl | assumption) (nI_toInt (n := k) (by omega)) (by omega) ?_
        refine b_iinc rfl rfl (Nat.le_of_ble_eq_true rfl) ?_
        refine b_goto rfl ?_
        exact b_lp (ih _ (by rw [hn_u_eq, a1]; exact cpf_s) (fun b hb => by rw [hn_u_ne _ _ _ hb]; exact a2 b hb)) (le_e (le_q (by rw [nI_succ]) le_0)) rfl rfl
  refine b_iconst rfl ?_
  refine b_istore_n rfl (Nat.le_of_ble_eq_true rfl) ?_
  exact b_lp (lp I0 (cpf_0 _ _).symm (fun _ _ => rfl)) (le_e (le_q (by rfl) le_0)) rfl rfl
theorem q_M_net {f : Nat → Nat} {n : Nat} (hR : hs_refs R) (hW : hs_Wm J) (hn : n ≤ 1000) (hS : ∀ i, i < n → I 189 i = nI (f i) ∧ f i < 128) (h2 : I 188 2 = nI n) (hv : ∀ k, (tq f n k).1 = 3 → (tq f n k).2.2.2 < 128) : hn_F 35 hm_M_net [.ref 188] (I, J, R) (fun r D' => r = some (.int (nI (p_net f n 1001 ((0, 0), b_0)).1.1)) ∧ (p_net f n 1001 ((0, 0), b_0)).1.1 < 20000 ∧ hs_Zm I J R (p_net f n 1001 ((0, 0), b_0)) D') := by
  have hM := hs_M_of hR
  refine hn_F_of _ hk_M_net rfl (Nat.le_of_ble_eq_true rfl) ?_
  obtain ⟨m1, m4, m5, m6, m9, m10, m11, m12, m14, m15, m16, m17, m20, m21, m22, m23, m25, m27, m28, m29, m30, m31, m32⟩ := id hM
  obtain ⟨Z, hZ⟩ : ∃ Z, Z = p_net f n 1001 ((0, 0), b_0) := ⟨_, rfl⟩
  rw [← hZ]
  obtain ⟨P, hP⟩ : ∃ P : Option Value → hnD → Prop, P = (fun r D' => r = some (.int (nI Z.1.1)) ∧ Z.1.1 < 20000 ∧ hs_Zm I J R Z D') := ⟨_, rfl⟩
  rw [← hP]
  have S57 : ∀ (E : Nat) (x : rd × sp_B) (I1 : Nat → Nat → Int32) (J1 : Nat → Nat → Int64), hs_f1 I J I1 J1 → I1 188 2 = 0 → I1 188 0 = 0 → hs_Rm I1 J1 f n E x.1 → (x.1.1 = 0 → hs_Bm I1 J1 x.2 ∧ hs_Bq x.2) → Z = x → hn_B 35 hm_M_net P 57 [.ref 188, .null] [] (I1, J1, R) := by
    intro E x I1 J1 g g2 g0 k b hx
    have k8 := k.2.2.2.1
    have kb := k.2.2.2.2.2
    by_cases h0 : x.1.1 = 0
    · obtain ⟨b1, b2⟩ := b h0
      refine b_aload_n rfl rfl ?_
      refine b_getI rfl (by first | rfl | assumption) rfl ?_
      rw [k8]
      refine b_if_le rfl (fun c_61 => ?_) (fun c_61 => ?_)
      · exact mnet_69 hM hP (by rw [hx]; exact h0) (by rw [hx]) b2 b1 g g2 g0
      · exact absurd (show nI x.1.1 ≤ 0 by rw [h0]; decide) c_61
    · refine b_aload_n rfl rfl ?_
      refine b_getI rfl (by first | rfl | assumption) rfl ?_
      rw [k8]
      refine b_if_le rfl (fun c_61 => ?_) (fun c_61 => ?_)
      · exact absurd c_61 (nI_ps h0 (by omega))
      · refine b_aload_n rfl rfl ?_
        refine b_getI rfl (by first | rfl | assumption) rfl ?_
        rw [k8]
        exact b_ireturn rfl trivial ((by rw [hP, hx]; exact ⟨rfl, kb, I1, J1, rfl, g2, g0, Or.inl ⟨h0, g⟩⟩))
  have lp : ∀ (E m : Nat) (x : rd × sp_B) (I1 : Nat → Nat → Int32) (J1 : Nat → Nat → Int64), hs_f1 I J I1 J1 → I1 188 2 = 0 → I1 188 0 = 0 → hs_Wm J1 → hs_Rm I1 J1 f n E x.1 → (x.1.1 = 0 → (hs_Bm I1 J1 x.2 ∧ hs_Bq x.2) ∧ E < x.1.2 + m) → Z = p_net f n m x → hn_B 35 hm_M_net P 25 [.ref 188, .null] [] (I1, J1, R) := by
    intro E m
    induction m with
    | zero =>
      intro x I1 J1 g g2 g0 gW k b hx
      have k8 := k.2.2.2.1
      have kb := k.2.2.2.2.2
      have h0 : ¬ x.1.1 = 0 := fun z => by have := (b z).2; have := k.2.2.2.2.1; omega
      refine b_aload_n rfl rfl ?_
      refine b_getI rfl (by first | rfl | assumption) rfl ?_
      rw [k8]
      refine b_if_ne rfl (fun c_29 => ?_) (fun c_29 => ?_)
      · exact S57 E x I1 J1 g g2 g0 k (fun z => absurd z h0) hx
      · exact absurd ((hi_nIe (k := 0) (by omega) (by omega)).mp c_29) h0
    | succ m ih =>
      intro x I1 J1 g g2 g0 gW k b hx
      obtain ⟨s, B⟩ := x
      have k : hs_Rm I1 J1 f n E s := k
      have b : s.1 = 0 → (hs_Bm I1 J1 B ∧ hs_Bq B) ∧ E < s.2 + (m + 1) := b
      have k7 := k.2.2.1
      have k8 := k.2.2.2.1
      have kb := k.2.2.2.2.2
      have kE := k.2.2.2.2.1
      have tt := k.2.1
      have hE1 := tt.1
      have c1 := (tt_at tt kE).1
      have hl4 := (tq_le f n s.2).2.2
      have hu : p_net f n (m + 1) (s, B) = if s.1 = 0 ∧ ¬ (tq f n s.2).1 = 0 then p_net f n m (p_ln f n (s, B)) else (s, B) := rfl
      rw [hu] at hx
      by_cases h0 : s.1 = 0
      · obtain ⟨⟨b1, b2⟩, bE⟩ := b h0
        by_cases hk : (tq f n s.2).1 = 0
        · rw [if_neg (fun z => z.2 hk)] at hx
          refine b_aload_n rfl rfl ?_
          refine b_getI rfl (by first | rfl | assumption) rfl ?_
          rw [k8]
          refine b_if_ne rfl (fun c_29 => ?_) (fun c_29 => ?_)
          · exact absurd (show nI s.1 = 0 by rw [h0]; rfl) c_29
          · refine b_aload_n rfl rfl ?_
            refine b_getR rfl (by first | rfl | assumption) rfl (by assumption) ?_
            refine b_aload_n rfl rfl ?_
            refine b_getI rfl (by first | rfl | assumption) rfl ?_
            rw [k7]
            refine b_iaload rfl (by first | rfl | assumption) (nI_toInt (n := s.2) (by omega)) (by omega) ?_
            rw [c1]
            refine b_if_eq rfl (fun c_41 => ?_) (fun c_41 => ?_)
            · exact S57 E (s, B) I1 J1 g g2 g0 k (fun _ => ⟨b1, b2⟩) hx
            · exact absurd (show nI (tq f n s.2).1 = 0 by rw [hk]; rfl) c_41
        · rw [if_pos ⟨h0, hk⟩] at hx
          have hkE := tt_lt tt kE hk
          refine b_aload_n rfl rfl ?_
          refine b_getI rfl (by first | rfl | assumption) rfl ?_
          rw [k8]
          refine b_if_ne rfl (fun c_29 => ?_) (fun c_29 => ?_)
          · exact absurd (show nI s.1 = 0 by rw [h0]; rfl) c_29
          · refine b_aload_n rfl rfl ?_
            refine b_getR rfl (by first | rfl | assumption) rfl (by assumption) ?_
            refine b_aload_n rfl rfl ?_
            refine b_getI rfl (by first | rfl | assumption) rfl ?_
            rw [k7]
            refine b_iaload rfl (by first | rfl | assumption) (nI_toInt (n := s.2) (by omega)) (by omega) ?_
            rw [c1]
            refine b_if_eq rfl (fun c_41 => ?_) (fun c_41 => ?_)
            · exact absurd ((hi_nIe (k := 0) (by omega) (by omega)).mp c_41) hk
            · refine b_aload_n rfl rfl ?_
              refine b_callV rfl rfl hk_M_readLine rfl rfl rfl (by first | rfl | assumption) rfl (Nat.le_of_ble_eq_true rfl) (q_M_readLine hM gW hv k h0 b1 b2) (Nat.le_of_ble_eq_true rfl) (fun r_45 D_45 q_45 => ?_)
              obtain ⟨rfl, Q, I2, J2, rfl, g3, k3, e3, b3⟩ := q_45
              refine b_aload_n rfl rfl ?_
              refine b_bipush rfl ?_
              refine b_callV rfl rfl hk_M_takeSign rfl rfl rfl (by first | rfl | assumption) rfl (Nat.le_of_ble_eq_true rfl) (q_M_takeSign (c := 59) hM hv k3 (by omega)) (Nat.le_of_ble_eq_true rfl) (fun r_51 D_51 q_51 => ?_)
              obtain ⟨rfl, I4, rfl, g4, k4⟩ := q_51
              rw [show p_s f n 59 Q = (p_ln f n (s, B)).1 from e3] at k4
              refine b_goto rfl ?_
              exact ih (p_ln f n (s, B)) I4 J2 (hs_f1_t g (hs_mn_t g3 (hs_mn_f g4))) (by rw [g4.2 2 (by omega) (by omega), g3.2.1 2 (by omega) (by omega) (by omega) (by omega)]; exact g2) (by rw [g4.2 0 (by omega) (by omega), g3.2.1 0 (by omega) (by omega) (by omega) (by omega)]; exact g0) (hs_Wm_c gW (g3.2.2.2.2 193 (by omega))) k4 (fun z => ⟨⟨hs_Bm_f (b3 z).1 g4, (b3 z).2⟩, by have := p_ln_up (tt_E tt) h0 hkE b2.2.1.1 z; omega⟩) hx
      · rw [if_neg (fun z => h0 z.1)] at hx
        refine b_aload_n rfl rfl ?_
        refine b_getI rfl (by first | rfl | assumption) rfl ?_
        rw [k8]
        refine b_if_ne rfl (fun c_29 => ?_) (fun c_29 => ?_)
        · exact S57 E (s, B) I1 J1 g g2 g0 k (fun z => absurd z h0) hx
        · exact absurd ((hi_nIe (k := 0) (by omega) (by omega)).mp c_29) h0
  obtain ⟨Ia, hIa⟩ : ∃ z, z = hn_u I 188 0 0 := ⟨_, rfl⟩
  have fa : ∀ b, b ≠ 188 → Ia b = I b := fun b hb => by rw [hIa, hn_u_ne _ _ _ hb]
  have fa1 : ∀ i, i ≠ 0 → Ia 188 i = I 188 i := fun i hi => by rw [hIa, hn_u_eq, va_up, if_neg hi]
  have qc := q_M_cutAll (I := Ia) (J := J) (f := f) (n := n) hM hn (fun i hi => by rw [fa 189 (by omega)]; exact hS i hi) (by rw [fa1 2 (by omega)]; exact h2)
  refine b_aload_n rfl rfl ?_
  refine b_iconst rfl ?_
  refine b_putI rfl (by first | rfl | assumption) rfl rfl ⟨rfl, rfl⟩ ?_
  rw [← hIa]
  refine b_aload_n rfl rfl ?_
  refine b_callV rfl rfl hk_M_cutAll rfl rfl rfl (by first | rfl | assumption) rfl (Nat.le_of_ble_eq_true rfl) (qc) (Nat.le_of_ble_eq_true rfl) (fun r_6 D_6 q_6 => ?_)
  obtain ⟨rfl, I2, J2, E, rfl, gc, tt, c2, c7, c8⟩ := q_6
  refine b_aload_n rfl rfl ?_
  refine b_iconst rfl ?_
  refine b_putI rfl (by first | rfl | assumption) rfl rfl ⟨rfl, rfl⟩ ?_
  refine b_aload_n rfl rfl ?_
  refine b_iconst rfl ?_
  refine b_putI rfl (by first | rfl | assumption) rfl rfl ⟨rfl, rfl⟩ ?_
  obtain ⟨I3, hI3⟩ : ∃ z, z = hn_u (hn_u I2 188 13 0) 188 19 0 := ⟨_, rfl⟩
  rw [← hI3]
  have f3 : ∀ b, b ≠ 188 → I3 b = I2 b := (fun b hb => by rw [hI3, hn_u_ne _ _ _ hb, hn_u_ne _ _ _ hb])
  have f31 : ∀ i, I3 188 i = if i = 19 then 0 else if i = 13 then 0 else I2 188 i := (fun i => by rw [hI3, hn_u_eq, va_up, hn_u_eq, va_up])
  refine b_aload_n rfl rfl ?_
  refine b_bipush rfl ?_
  refine b_callV rfl rfl hk_M_standsAsAlways rfl rfl rfl (by first | rfl | assumption) rfl (Nat.le_of_ble_eq_true rfl) (q_M_standsAsAlways (b := 60) hM rfl (Or.inr rfl)) (Nat.le_of_ble_eq_true rfl) (fun r_22 D_22 q_22 => ?_)
  obtain ⟨rfl, I4, rfl, g4, g5⟩ := q_22
  have e4 : ∀ i, I4 188 i = if i = 19 then 0 else if i = 13 then 0 else I2 188 i := (fun i => by rw [g4 188 (by omega)]; exact f31 i)
  have e0 : ∀ b, b ≠ 188 → b ≠ 194 → I4 b = I2 b := (fun b h1 h2 => by rw [g4 b h2, f3 b h1])
  have B0 := hs_Bm_0 (I := I4) (J := J2) (fun j hj => by rw [g5, if_pos ⟨by omega, by omega⟩]; (by_cases hj4 : j = 4); (rw [if_pos (by omega), if_pos hj4]); (rw [if_neg (by omega), if_neg hj4])) (by rw [e4, if_neg (by omega), if_pos rfl]) (by rw [e4, if_pos rfl])
  exact lp E 1001 ((0, 0), b_0) I4 J2 ⟨fun b h1 h2 h3 h4 h5 h6 h7 => by rw [e0 b h1 h4, gc.1 b h1 h2 h3, fa b h1], fun i i0 i2 i3 i7 i8 i13 i19 => by rw [e4, if_neg i19, if_neg i13, gc.2.2 i i2 i3 i7 i8, fa1 i i0], fun j hj => by rw [g5, if_neg (by omega), f3 194 (by omega), gc.1 194 (by omega) (by omega) (by omega), fa 194 (by omega)], fun j hj => ⟨by rw [e0 195 (by omega) (by omega), gc.1 195 (by omega) (by omega) (by omega), fa 195 (by omega)], by rw [e0 196 (by omega) (by omega), gc.1 196 (by omega) (by omega) (by omega), fa 196 (by omega)]⟩, fun b h1 h2 => gc.2.1 b h1⟩ (by rw [e4, if_neg (by omega), if_neg (by omega)]; exact c2) (by rw [e4, if_neg (by omega), if_neg (by omega), gc.2.2 0 (by omega) (by omega) (by omega) (by omega), hIa, hn_u_eq, va_up, if_pos rfl]) (hs_Wm_c hW (gc.2.1 193 (by omega))) ⟨hn, hs_tt_c tt (e0 190 (by omega) (by omega)) (e0 191 (by omega) (by omega)), by rw [e4, if_neg (by omega), if_neg (by omega)]; exact c7, by rw [e4, if_neg (by omega), if_neg (by omega)]; exact c8, Nat.zero_le _, by show 0 < 20000; omega⟩ (fun _ => ⟨B0, by have := tt.1; show E < 0 + 1001; omega⟩) hZ
end HNmnets
