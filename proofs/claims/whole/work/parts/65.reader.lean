section HNreader
variable {I I' : Nat → Nat → Int32} {J J' : Nat → Nat → Int64} {R R' : Nat → Nat → Option Nat}
/-! the tokens one behind the other; a reading (its fault, its token) -/
def tq (f : Nat → Nat) (n : Nat) : Nat → tk
  | 0 => tok f n 0
  | k + 1 => tok f n (tq f n k).2.2.1
theorem tq_le (f : Nat → Nat) (n : Nat) : ∀ k, (tq f n k).2.2.1 ≤ n ∧ (tq f n k).2.1 ≤ n ∧ (tq f n k).1 ≤ 4
  | 0 => by
    have h := tok_le f (n := n) (p := 0) (Nat.zero_le _)
    exact ⟨h.2.1, h.2.2.1, h.2.2.2.1⟩
  | k + 1 => by
    have ih := tq_le f n k
    have h := tok_le f (n := n) (p := (tq f n k).2.2.1) ih.1
    exact ⟨h.2.1, h.2.2.1, h.2.2.2.1⟩
abbrev rd : Type := Nat × Nat
def fl (f : Nat → Nat) (n c : Nat) (s : rd) : rd := (c + 16 * (tq f n s.2).2.1, s.2)
def p_f (f : Nat → Nat) (n c : Nat) (s : rd) : rd := if s.1 = 0 then fl f n c s else s
def p_u (f : Nat → Nat) (n : Nat) (b : Prop) [Decidable b] (c : Nat) (s : rd) : rd := if b then fl f n c s else (0, s.2 + 1)
abbrev p_isS (x : tk) (c : Nat) : Prop := x.1 = 3 ∧ x.2.2.2 = c
abbrev p_isN (x : tk) : Prop := x.1 = 1 ∧ hn_wres.getD (wx x) 0 = 0
def p_w (f : Nat → Nat) (n w : Nat) (s : rd) : rd := if s.1 = 0 then p_u f n (wx (tq f n s.2) ≠ w) 1 s else s
def p_e (f : Nat → Nat) (n : Nat) (s : rd) : rd := if s.1 = 0 then p_u f n (¬ p_isS (tq f n s.2) 59) 1 s else s
def hs_Rd (I : Nat → Nat → Int32) (J : Nat → Nat → Int64) (R : Nat → Nat → Option Nat) (f : Nat → Nat) (n : Nat) (s : rd) : Prop := R 1 0 = some 2 ∧ R 3 0 = some 1 ∧ hs_Sg I f n ∧ hs_Tk I J R n (tq f n s.2) ∧ I 3 1 = nI s.1 ∧ s.1 < 20000
/-- what the reader's steps may change -/
def hs_rf (I : Nat → Nat → Int32) (J : Nat → Nat → Int64) (R : Nat → Nat → Option Nat) (I' : Nat → Nat → Int32) (J' : Nat → Nat → Int64) (R' : Nat → Nat → Option Nat) : Prop := (∀ b, b ≠ 1 → b ≠ 3 → I' b = I b) ∧ (∀ b, b ≠ 1 → J' b = J b) ∧ (∀ b, b ≠ 1 → R' b = R b) ∧ ∀ i, i ≠ 5 → R' 1 i = R 1 i
theorem hs_rf_r : hs_rf I J R I J R := ⟨fun _ _ _ => rfl, fun _ _ => rfl, fun _ _ => rfl, fun _ _ => rfl⟩
theorem hs_rf_t {I2 : Nat → Nat → Int32} {J2 : Nat → Nat → Int64} {R2 : Nat → Nat → Option Nat} (h : hs_rf I J R I' J' R') (g : hs_rf I' J' R' I2 J2 R2) : hs_rf I J R I2 J2 R2 :=
  ⟨fun b hb hb3 => (g.1 b hb hb3).trans (h.1 b hb hb3), fun b hb => (g.2.1 b hb).trans (h.2.1 b hb), fun b hb => (g.2.2.1 b hb).trans (h.2.2.1 b hb), fun i hi => (g.2.2.2 i hi).trans (h.2.2.2 i hi)⟩
theorem hs_rf_tf (h : hs_tf I J R I' J' R') : hs_rf I J R I' J' R' := ⟨fun b hb _ => h.1 b hb, h.2.1, h.2.2.1, h.2.2.2⟩
def hs_rp (I : Nat → Nat → Int32) (J : Nat → Nat → Int64) (R : Nat → Nat → Option Nat) (f : Nat → Nat) (n : Nat) (s : rd) (D' : hnD) : Prop := ∃ I2 J2 R2, D' = (I2, J2, R2) ∧ hs_rf I J R I2 J2 R2 ∧ hs_Rd I2 J2 R2 f n s
theorem q_Tape_empty : hn_F 0 hm_Tape_empty [.ref 1] (I, J, R) (fun r D' => r = none ∧ D' = (hn_u I 1 1 0, J, R)) := by
  refine hn_F_of _ hk_Tape_empty rfl (Nat.le_of_ble_eq_true rfl) ?_
  refine b_aload_n rfl rfl ?_
  refine b_iconst rfl ?_
  refine b_putI rfl (by first | rfl | assumption) rfl rfl ⟨rfl, rfl⟩ ?_
  exact b_return_ rfl trivial (⟨rfl, rfl⟩)
theorem q_Tape_begin {f : Nat → Nat} {n : Nat} (hr : R 1 0 = some 2) (hS : hs_Sg I f n) (h1 : I 1 1 = nI n) : hn_F 2 hm_Tape_begin [.ref 1] (I, J, R) (fun r D' => r = none ∧ ∃ I2 J2 R2, D' = (I2, J2, R2) ∧ hs_tf I J R I2 J2 R2 ∧ hs_Tk I2 J2 R2 n (tq f n 0)) := by
  refine hn_F_of _ hk_Tape_begin rfl (Nat.le_of_ble_eq_true rfl) ?_
  refine b_aload_n rfl rfl ?_
  refine b_iconst rfl ?_
  refine b_putI rfl (by first | rfl | assumption) rfl rfl ⟨rfl, rfl⟩ ?_
  refine b_aload_n rfl rfl ?_
  refine b_callV rfl rfl hk_Tape_advance rfl rfl rfl (by first | rfl | assumption) rfl (Nat.le_of_ble_eq_true rfl) (q_Tape_advance (f := f) (n := n) (p := 0) hr ⟨hS.1, fun i hi => by rw [hn_u_ne _ _ _ (by omega)]; exact hS.2 i hi⟩ (by rw [hn_u_eq, va_up, if_neg (by omega)]; exact h1) (by rw [hn_u_eq, va_up, if_pos rfl]; rfl) (Nat.zero_le _)) (Nat.le_of_ble_eq_true rfl) (fun r_6 D_6 q_6 => ?_)
  obtain ⟨rfl, I2, J2, R2, rfl, ht, hk⟩ := q_6
  exact b_return_ rfl trivial (⟨rfl, _, _, _, rfl, hs_tf_t ⟨fun b hb => hn_u_ne _ _ _ hb, fun _ _ => rfl, fun _ _ => rfl, fun _ _ => rfl⟩ ht, hk⟩)
theorem q_Tape_isSign {n c : Nat} {x : tk} (h : hs_Tk I J R n x) (hx : x.1 ≤ 4) (hc : c < 128) (hv : x.1 = 3 → x.2.2.2 < 128) : hn_F 0 hm_Tape_isSign [.ref 1, .int (nI c)] (I, J, R) (fun r D' => ∃ b, r = some (.int b) ∧ fg (p_isS x c) b ∧ D' = (I, J, R)) := by
  refine hn_F_of _ hk_Tape_isSign rfl (Nat.le_of_ble_eq_true rfl) ?_
  obtain ⟨_, _, _, h4, _, _, _, h8⟩ := h
  by_cases h3 : x.1 = 3
  · have e8 : nI x.2.2.2 = nI c ↔ x.2.2.2 = c := hi_nIe (by have := hv h3; omega) (by omega)
    by_cases hs : x.2.2.2 = c
    · refine b_aload_n rfl rfl ?_
      refine b_getI rfl (by first | rfl | assumption) rfl ?_
      rw [h4, h3]
      refine b_iconst rfl ?_
      refine b_icmp_ne rfl (fun c_5 => ?_) (fun c_5 => ?_)
      · exact absurd rfl c_5
      · refine b_aload_n rfl rfl ?_
        refine b_getI rfl (by first | rfl | assumption) rfl ?_
        rw [h8 h3]
        refine b_iload_n rfl rfl ?_
        refine b_icmp_ne rfl (fun c_13 => ?_) (fun c_13 => ?_)
        · exact absurd (e8.mpr hs) c_13
        · refine b_iconst rfl ?_
          refine b_goto rfl ?_
          exact b_ireturn rfl (by first | exact Or.inl rfl | exact Or.inr rfl | exact trivial) (⟨_, rfl, Or.inl ⟨⟨h3, hs⟩, rfl⟩, rfl⟩)
    · refine b_aload_n rfl rfl ?_
      refine b_getI rfl (by first | rfl | assumption) rfl ?_
      rw [h4, h3]
      refine b_iconst rfl ?_
      refine b_icmp_ne rfl (fun c_5 => ?_) (fun c_5 => ?_)
      · exact absurd rfl c_5
      · refine b_aload_n rfl rfl ?_
        refine b_getI rfl (by first | rfl | assumption) rfl ?_
        rw [h8 h3]
        refine b_iload_n rfl rfl ?_
        refine b_icmp_ne rfl (fun c_13 => ?_) (fun c_13 => ?_)
        · refine b_iconst rfl ?_
          exact b_ireturn rfl (by first | exact Or.inl rfl | exact Or.inr rfl | exact trivial) (⟨_, rfl, Or.inr ⟨fun z => hs z.2, rfl⟩, rfl⟩)
        · exact absurd (e8.mp c_13) hs
  · refine b_aload_n rfl rfl ?_
    refine b_getI rfl (by first | rfl | assumption) rfl ?_
    rw [h4]
    refine b_iconst rfl ?_
    refine b_icmp_ne rfl (fun c_5 => ?_) (fun c_5 => ?_)
    · refine b_iconst rfl ?_
      exact b_ireturn rfl (by first | exact Or.inl rfl | exact Or.inr rfl | exact trivial) (⟨_, rfl, Or.inr ⟨fun z => h3 z.1, rfl⟩, rfl⟩)
    · exact absurd ((hi_nIe (k := 3) (by omega) (by omega)).mp c_5) h3
theorem q_Tape_isName {n : Nat} {x : tk} (h : hs_Tk I J R n x) (hx : x.1 ≤ 4) : hn_F 0 hm_Tape_isName [.ref 1] (I, J, R) (fun r D' => ∃ b, r = some (.int b) ∧ fg (p_isN x) b ∧ D' = (I, J, R)) := by
  refine hn_F_of _ hk_Tape_isName rfl (Nat.le_of_ble_eq_true rfl) ?_
  obtain ⟨_, _, _, h4, h5, _⟩ := h
  have hw := wx_lt x
  by_cases h3 : x.1 = 1
  · by_cases hs : hn_wres.getD (wx x) 0 = 0
    · refine b_aload_n rfl rfl ?_
      refine b_getI rfl (by first | rfl | assumption) rfl ?_
      rw [h4, h3]
      refine b_iconst rfl ?_
      refine b_icmp_ne rfl (fun c_5 => ?_) (fun c_5 => ?_)
      · exact absurd rfl c_5
      · refine b_aload_n rfl rfl ?_
        refine b_getR rfl (by first | rfl | assumption) rfl (by assumption) ?_
        refine b_getW rfl (by decide) (by omega) ?_
        rw [show 5000 + wx x - 5000 = wx x by omega]
        refine b_if_ne rfl (fun c_15 => ?_) (fun c_15 => ?_)
        · exact absurd hs c_15
        · refine b_iconst rfl ?_
          refine b_goto rfl ?_
          exact b_ireturn rfl (by first | exact Or.inl rfl | exact Or.inr rfl | exact trivial) (⟨_, rfl, Or.inl ⟨⟨h3, hs⟩, rfl⟩, rfl⟩)
    · refine b_aload_n rfl rfl ?_
      refine b_getI rfl (by first | rfl | assumption) rfl ?_
      rw [h4, h3]
      refine b_iconst rfl ?_
      refine b_icmp_ne rfl (fun c_5 => ?_) (fun c_5 => ?_)
      · exact absurd rfl c_5
      · refine b_aload_n rfl rfl ?_
        refine b_getR rfl (by first | rfl | assumption) rfl (by assumption) ?_
        refine b_getW rfl (by decide) (by omega) ?_
        rw [show 5000 + wx x - 5000 = wx x by omega]
        refine b_if_ne rfl (fun c_15 => ?_) (fun c_15 => ?_)
        · refine b_iconst rfl ?_
          exact b_ireturn rfl (by first | exact Or.inl rfl | exact Or.inr rfl | exact trivial) (⟨_, rfl, Or.inr ⟨fun z => hs z.2, rfl⟩, rfl⟩)
        · exact absurd c_15 hs
  · refine b_aload_n rfl rfl ?_
    refine b_getI rfl (by first | rfl | assumption) rfl ?_
    rw [h4]
    refine b_iconst rfl ?_
    refine b_icmp_ne rfl (fun c_5 => ?_) (fun c_5 => ?_)
    · refine b_iconst rfl ?_
      exact b_ireturn rfl (by first | exact Or.inl rfl | exact Or.inr rfl | exact trivial) (⟨_, rfl, Or.inr ⟨fun z => h3 z.1, rfl⟩, rfl⟩)
    · exact absurd ((hi_nIe (k := 1) (by omega) (by omega)).mp c_5) h3
theorem q_Reader_fail {f : Nat → Nat} {n c : Nat} {s : rd} (h : hs_Rd I J R f n s) (hc : c ≤ 5) : hn_F 0 hm_Reader_fail [.ref 3, .int (nI c)] (I, J, R) (fun r D' => r = none ∧ hs_rp I J R f n (p_f f n c s) D') := by
  refine hn_F_of _ hk_Reader_fail rfl (Nat.le_of_ble_eq_true rfl) ?_
  have h0 := h
  obtain ⟨hr1, hr3, hS, hk, hf, hs⟩ := h
  have hp := (tq_le f n s.2).2.1
  have hn := hS.1
  by_cases hz : s.1 = 0
  · have e : nI c + 16 * nI (tq f n s.2).2.1 = nI (c + 16 * (tq f n s.2).2.1) := by rw [nI_ad, nI_ml]; rfl
    have e2 : p_f f n c s = fl f n c s := if_pos hz
    refine b_aload_n rfl rfl ?_
    refine b_getI rfl (by first | rfl | assumption) rfl ?_
    rw [hf, hz]
    refine b_if_ne rfl (fun c_4 => ?_) (fun c_4 => ?_)
    · exact absurd rfl c_4
    · refine b_aload_n rfl rfl ?_
      refine b_iload_n rfl rfl ?_
      refine b_bipush rfl ?_
      refine b_aload_n rfl rfl ?_
      refine b_getR rfl (by first | rfl | assumption) rfl (by assumption) ?_
      refine b_getI rfl (by first | rfl | assumption) rfl ?_
      rw [hk.2.1]
      refine b_imul rfl ?_
      refine b_iadd rfl ?_
      rw [e]
      refine b_putI rfl (by first | rfl | assumption) rfl rfl ⟨rfl, rfl⟩ ?_
      exact b_return_ rfl trivial (⟨rfl, _, _, _, rfl, ⟨fun b hb hb3 => hn_u_ne _ _ _ hb3, fun _ _ => rfl, fun _ _ => rfl, fun _ _ => rfl⟩, by rw [e2]; exact ⟨hr1, hr3, ⟨hS.1, fun i hi => by rw [hn_u_ne _ _ _ (by omega)]; exact hS.2 i hi⟩, by unfold hs_Tk; rw [hn_u_ne _ _ _ (show (1 : Nat) ≠ 3 by omega)]; exact hk, by rw [hn_u_eq, va_up, if_pos rfl]; rfl, by show c + 16 * (tq f n s.2).2.1 < 20000; omega⟩⟩)
  · have e2 : p_f f n c s = s := if_neg hz
    refine b_aload_n rfl rfl ?_
    refine b_getI rfl (by first | rfl | assumption) rfl ?_
    rw [hf]
    refine b_if_ne rfl (fun c_4 => ?_) (fun c_4 => ?_)
    · exact b_return_ rfl trivial (⟨rfl, _, _, _, rfl, hs_rf_r, by rw [e2]; exact h0⟩)
    · exact absurd ((hi_nIe (k := 0) (by omega) (by omega)).mp c_4) hz
theorem q_Reader_takeUnless {f : Nat → Nat} {n c : Nat} {s : rd} {p : Prop} [Decidable p] {b : Int32} (h : hs_Rd I J R f n s) (h0 : s.1 = 0) (hb : fg p b) (hc : c ≤ 5) : hn_F 2 hm_Reader_takeUnless [.ref 3, .int b, .int (nI c)] (I, J, R) (fun r D' => r = none ∧ hs_rp I J R f n (p_u f n p c s) D') := by
  refine hn_F_of _ hk_Reader_takeUnless rfl (Nat.le_of_ble_eq_true rfl) ?_
  have hh := h
  obtain ⟨hr1, hr3, hS, hk, hf, hs⟩ := h
  have hp := (tq_le f n s.2)
  rcases hb with ⟨hy, rfl⟩ | ⟨hy, rfl⟩
  · have e2 : p_f f n c s = p_u f n p c s := by unfold p_u p_f; rw [if_pos h0, if_pos hy]
    refine b_iload_n rfl rfl ?_
    refine b_if_eq rfl (fun c_1 => ?_) (fun c_1 => ?_)
    · exact absurd c_1 (by decide)
    · refine b_aload_n rfl rfl ?_
      refine b_iload_n rfl rfl ?_
      refine b_callV rfl rfl hk_Reader_fail rfl rfl rfl (by first | rfl | assumption) rfl (Nat.le_of_ble_eq_true rfl) (q_Reader_fail hh hc) (Nat.le_of_ble_eq_true rfl) (fun r_6 D_6 q_6 => ?_)
      obtain ⟨rfl, hq⟩ := q_6
      rw [e2] at hq
      obtain ⟨I2, J2, R2, rfl, ht, hk2⟩ := hq
      refine b_goto rfl ?_
      exact b_return_ rfl trivial (⟨rfl, _, _, _, rfl, ht, hk2⟩)
  · have e2 : p_u f n p c s = (0, s.2 + 1) := if_neg hy
    refine b_iload_n rfl rfl ?_
    refine b_if_eq rfl (fun c_1 => ?_) (fun c_1 => ?_)
    · refine b_aload_n rfl rfl ?_
      refine b_getR rfl (by first | rfl | assumption) rfl (by assumption) ?_
      refine b_callV rfl rfl hk_Tape_advance rfl rfl rfl (by first | rfl | assumption) rfl (Nat.le_of_ble_eq_true rfl) (q_Tape_advance (f := f) hr1 hS hk.1 hk.2.2.1 hp.1) (Nat.le_of_ble_eq_true rfl) (fun r_16 D_16 q_16 => ?_)
      obtain ⟨rfl, I2, J2, R2, rfl, ht, hk2⟩ := q_16
      exact b_return_ rfl trivial (⟨rfl, _, _, _, rfl, hs_rf_tf ht, by rw [e2]; exact ⟨by rw [ht.2.2.2 0 (by omega)]; exact hr1, by rw [ht.2.2.1 3 (by omega)]; exact hr3, ⟨hS.1, fun i hi => by rw [ht.1 2 (by omega)]; exact hS.2 i hi⟩, hk2, by rw [ht.1 3 (by omega), hf, h0], by show 0 < 20000; omega⟩⟩)
    · exact absurd rfl c_1
theorem q_Reader_takeWord {f : Nat → Nat} {n w : Nat} {s : rd} (h : hs_Rd I J R f n s) (hw : w < 26) : hn_F 3 hm_Reader_takeWord [.ref 3, .ref (5000 + w)] (I, J, R) (fun r D' => r = none ∧ hs_rp I J R f n (p_w f n w s) D') := by
  refine hn_F_of _ hk_Reader_takeWord rfl (Nat.le_of_ble_eq_true rfl) ?_
  have hh := h
  obtain ⟨hr1, hr3, hS, hk, hf, hs⟩ := h
  have hwx := wx_lt (tq f n s.2)
  have h5 := hk.2.2.2.2.1
  by_cases hz : s.1 = 0
  · have e2 : p_w f n w s = p_u f n (wx (tq f n s.2) ≠ w) 1 s := if_pos hz
    rw [e2]
    by_cases hc : wx (tq f n s.2) = w
    · refine b_aload_n rfl rfl ?_
      refine b_getI rfl (by first | rfl | assumption) rfl ?_
      rw [hf, hz]
      refine b_if_ne rfl (fun c_4 => ?_) (fun c_4 => ?_)
      · exact absurd rfl c_4
      · refine b_aload_n rfl rfl ?_
        refine b_aload_n rfl rfl ?_
        refine b_getR rfl (by first | rfl | assumption) rfl (by assumption) ?_
        refine b_getR rfl (by first | rfl | assumption) rfl (by assumption) ?_
        refine b_aload_n rfl rfl ?_
        refine b_acmp_eq rfl (by omega) (by omega) (fun c_16 => ?_) (fun c_16 => ?_)
        · refine b_iconst rfl ?_
          refine b_iconst rfl ?_
          refine b_callV rfl rfl hk_Reader_takeUnless rfl rfl rfl (by first | rfl | assumption) rfl (Nat.le_of_ble_eq_true rfl) (q_Reader_takeUnless (c := 1) (p := wx (tq f n s.2) ≠ w) (b := 0) hh hz (Or.inr ⟨fun z => z hc, rfl⟩) (by omega)) (Nat.le_of_ble_eq_true rfl) (fun r_25 D_25 q_25 => ?_)
          obtain ⟨rfl, I2, J2, R2, rfl, ht, hk2⟩ := q_25
          exact b_return_ rfl trivial (⟨rfl, _, _, _, rfl, ht, hk2⟩)
        · exact absurd (show 5000 + wx (tq f n s.2) = 5000 + w by omega) c_16
    · refine b_aload_n rfl rfl ?_
      refine b_getI rfl (by first | rfl | assumption) rfl ?_
      rw [hf, hz]
      refine b_if_ne rfl (fun c_4 => ?_) (fun c_4 => ?_)
      · exact absurd rfl c_4
      · refine b_aload_n rfl rfl ?_
        refine b_aload_n rfl rfl ?_
        refine b_getR rfl (by first | rfl | assumption) rfl (by assumption) ?_
        refine b_getR rfl (by first | rfl | assumption) rfl (by assumption) ?_
        refine b_aload_n rfl rfl ?_
        refine b_acmp_eq rfl (by omega) (by omega) (fun c_16 => ?_) (fun c_16 => ?_)
        · exact absurd (show wx (tq f n s.2) = w by omega) hc
        · refine b_iconst rfl ?_
          refine b_goto rfl ?_
          refine b_iconst rfl ?_
          refine b_callV rfl rfl hk_Reader_takeUnless rfl rfl rfl (by first | rfl | assumption) rfl (Nat.le_of_ble_eq_true rfl) (q_Reader_takeUnless (c := 1) (p := wx (tq f n s.2) ≠ w) (b := 1) hh hz (Or.inl ⟨hc, rfl⟩) (by omega)) (Nat.le_of_ble_eq_true rfl) (fun r_25 D_25 q_25 => ?_)
          obtain ⟨rfl, I2, J2, R2, rfl, ht, hk2⟩ := q_25
          exact b_return_ rfl trivial (⟨rfl, _, _, _, rfl, ht, hk2⟩)
  · have e2 : p_w f n w s = s := if_neg hz
    refine b_aload_n rfl rfl ?_
    refine b_getI rfl (by first | rfl | assumption) rfl ?_
    rw [hf]
    refine b_if_ne rfl (fun c_4 => ?_) (fun c_4 => ?_)
    · exact b_return_ rfl trivial (⟨rfl, _, _, _, rfl, hs_rf_r, by rw [e2]; exact hh⟩)
    · exact absurd ((hi_nIe (k := 0) (by omega) (by omega)).mp c_4) hz
end HNreader
