section HNmreader
variable {I I' : Nat → Nat → Int32} {J J' : Nat → Nat → Int64} {R R' : Nat → Nat → Option Nat}
/-! the reference reads: fault and token -/
def hs_Rm (I : Nat → Nat → Int32) (J : Nat → Nat → Int64) (f : Nat → Nat) (n E : Nat) (s : rd) : Prop := n ≤ 1000 ∧ hs_tt I J f n E ∧ I 188 7 = nI s.2 ∧ I 188 8 = nI s.1 ∧ s.2 ≤ E ∧ s.1 < 20000
def hs_mf (I I' : Nat → Nat → Int32) : Prop := (∀ b, b ≠ 188 → I' b = I b) ∧ ∀ i, i ≠ 7 → i ≠ 8 → I' 188 i = I 188 i
def hs_mp (I : Nat → Nat → Int32) (J : Nat → Nat → Int64) (R : Nat → Nat → Option Nat) (f : Nat → Nat) (n E : Nat) (s : rd) (D' : hnD) : Prop := ∃ I2, D' = (I2, J, R) ∧ hs_mf I I2 ∧ hs_Rm I2 J f n E s
def hs_Wm (J : Nat → Nat → Int64) : Prop := ∀ w, w < 24 → J 193 w = nJ (cv (wlN.getD (w + 2) 0))
theorem hs_mf_r : hs_mf I I := ⟨fun _ _ => rfl, fun _ _ _ => rfl⟩
theorem hs_mf_t {I2 : Nat → Nat → Int32} (h : hs_mf I I') (g : hs_mf I' I2) : hs_mf I I2 := ⟨fun b hb => (g.1 b hb).trans (h.1 b hb), fun i h7 h8 => (g.2 i h7 h8).trans (h.2 i h7 h8)⟩
theorem hs_mp_r {f : Nat → Nat} {n E : Nat} {s : rd} (h : hs_Rm I J f n E s) : hs_mp I J R f n E s (I, J, R) := ⟨I, rfl, hs_mf_r, h⟩
theorem tt_at {f : Nat → Nat} {n E k : Nat} (h : hs_tt I J f n E) (hk : k ≤ E) : hs_c1 I J k (tq f n k) := by
  obtain ⟨h1, h2, h3, h4, h5⟩ := h
  by_cases hc : k = E
  · rw [hc]
    exact ⟨by rw [h5]; exact h3, h4, (fun z => by rw [h5] at z; cases z), (fun z => by rw [h5] at z; rcases z with z | z <;> cases z)⟩
  · exact (h2 k (by omega)).1
theorem tt_lt {f : Nat → Nat} {n E k : Nat} (h : hs_tt I J f n E) (hk : k ≤ E) (hx : ¬ (tq f n k).1 = 0) : k < E := by
  by_cases hc : k = E
  · rw [hc, h.2.2.2.2] at hx
    exact absurd rfl hx
  · omega
theorem hs_tt_c {f : Nat → Nat} {n E : Nat} (h : hs_tt I J f n E) (g0 : I' 190 = I 190) (g1 : I' 191 = I 191) : hs_tt I' J f n E := by
  unfold hs_tt hs_ct hs_c1 at h ⊢
  rw [g0, g1]
  exact h
theorem hs_Rm_s {f : Nat → Nat} {n E : Nat} {s s' : rd} (h : hs_Rm I J f n E s) (g : hs_mf I I') (h7 : I' 188 7 = nI s'.2) (h8 : I' 188 8 = nI s'.1) (hE : s'.2 ≤ E) (hb : s'.1 < 20000) : hs_Rm I' J f n E s' := ⟨h.1, hs_tt_c h.2.1 (g.1 190 (by omega)) (g.1 191 (by omega)), h7, h8, hE, hb⟩
theorem mf_7 {v : Int32} : hs_mf I (hn_u I 188 7 v) := ⟨fun b hb => hn_u_ne _ _ _ hb, fun i h7 _ => by rw [hn_u_eq, va_up, if_neg h7]⟩
theorem mf_8 {v : Int32} : hs_mf I (hn_u I 188 8 v) := ⟨fun b hb => hn_u_ne _ _ _ hb, fun i _ h8 => by rw [hn_u_eq, va_up, if_neg h8]⟩
/-- one token on -/
theorem mp_on {f : Nat → Nat} {n E : Nat} {s : rd} (h : hs_Rm I J f n E s) (h0 : s.1 = 0) (hx : ¬ (tq f n s.2).1 = 0) : hs_mp I J R f n E (0, s.2 + 1) (hn_u I 188 7 (nI (s.2 + 1)), J, R) := ⟨_, rfl, mf_7, hs_Rm_s h mf_7 (by rw [hn_u_eq, va_up, if_pos rfl]) (by rw [hn_u_eq, va_up, if_neg (by omega), h.2.2.2.1, h0]) (tt_lt h.2.1 h.2.2.2.2.1 hx) (by show 0 < 20000; omega)⟩
theorem hs_fl_b {f : Nat → Nat} {n c : Nat} {s : rd} (hn : n ≤ 1000) (hc : c ≤ 5) : (fl f n c s).1 < 20000 := by
  have := (tq_le f n s.2).2.1
  show c + 16 * (tq f n s.2).2.1 < 20000
  omega
theorem q_M_wrong {f : Nat → Nat} {n E c : Nat} {s : rd} (hM : hs_M R) (h : hs_Rm I J f n E s) (hc : c ≤ 5) : hn_F 0 hm_M_wrong [.ref 188, .int (nI c)] (I, J, R) (fun r D' => r = none ∧ hs_mp I J R f n E (p_f f n c s) D') := by
  refine hn_F_of _ hk_M_wrong rfl (Nat.le_of_ble_eq_true rfl) ?_
  obtain ⟨m1, m4, m5, m6, m9, m10, m11, m12, m14, m15, m16, m17, m20, m21, m22, m23, m25, m27, m28, m29, m30, m31, m32⟩ := id hM
  obtain ⟨hn, ht, h7, h8, hk, hb⟩ := id h
  have hE := ht.1
  have hc1 := tt_at ht hk
  by_cases h0 : s.1 = 0
  · rw [show p_f f n c s = fl f n c s from if_pos h0]
    refine b_aload_n rfl rfl ?_
    refine b_getI rfl (by first | rfl | assumption) rfl ?_
    rw [h8]
    refine b_if_ne rfl (fun c_4 => ?_) (fun c_4 => ?_)
    · exact absurd (show nI s.1 = 0 by rw [h0]; rfl) c_4
    · refine b_aload_n rfl rfl ?_
      refine b_iload_n rfl rfl ?_
      refine b_bipush rfl ?_
      refine b_aload_n rfl rfl ?_
      refine b_getR rfl (by first | rfl | assumption) rfl (by assumption) ?_
      refine b_aload_n rfl rfl ?_
      refine b_getI rfl (by first | rfl | assumption) rfl ?_
      rw [h7]
      refine b_iaload rfl (by first | rfl | assumption) (nI_toInt (n := s.2) (by omega)) (by omega) ?_
      rw [hc1.2.1]
      refine b_imul rfl ?_
      refine b_iadd rfl ?_
      rw [show nI c + 16 * nI (tq f n s.2).2.1 = nI (c + 16 * (tq f n s.2).2.1) by rw [nI_ad, nI_ml]; rfl]
      refine b_putI rfl (by first | rfl | assumption) rfl rfl ⟨rfl, rfl⟩ ?_
      exact b_return_ rfl trivial (⟨rfl, _, rfl, mf_8, hs_Rm_s h mf_8 (by rw [hn_u_eq, va_up, if_neg (by omega)]; exact h7) (by rw [hn_u_eq, va_up, if_pos rfl]; rfl) hk (hs_fl_b hn hc)⟩)
  · rw [show p_f f n c s = s from if_neg h0]
    refine b_aload_n rfl rfl ?_
    refine b_getI rfl (by first | rfl | assumption) rfl ?_
    rw [h8]
    refine b_if_ne rfl (fun c_4 => ?_) (fun c_4 => ?_)
    · exact b_return_ rfl trivial (⟨rfl, hs_mp_r h⟩)
    · exact absurd ((hi_nIe (k := 0) (by omega) (by omega)).mp c_4) h0
theorem q_M_isSign {f : Nat → Nat} {n E c : Nat} {s : rd} (hM : hs_M R) (hv : ∀ k, (tq f n k).1 = 3 → (tq f n k).2.2.2 < 128) (h : hs_Rm I J f n E s) (hc : c < 128) : hn_F 0 hm_M_isSign [.ref 188, .int (nI c)] (I, J, R) (fun r D' => (∃ b, r = some (.int b) ∧ fg (s.1 = 0 ∧ p_isS (tq f n s.2) c) b) ∧ D' = (I, J, R)) := by
  refine hn_F_of _ hk_M_isSign rfl (Nat.le_of_ble_eq_true rfl) ?_
  obtain ⟨m1, m4, m5, m6, m9, m10, m11, m12, m14, m15, m16, m17, m20, m21, m22, m23, m25, m27, m28, m29, m30, m31, m32⟩ := id hM
  obtain ⟨hn, ht, h7, h8, hk, hb⟩ := id h
  have hE := ht.1
  have hc1 := tt_at ht hk
  have hl4 := (tq_le f n s.2).2.2
  have no : ¬ (s.1 = 0 ∧ p_isS (tq f n s.2) c) → (∃ b, some (Value.int 0) = some (.int b) ∧ fg (s.1 = 0 ∧ p_isS (tq f n s.2) c) b) ∧ (I, J, R) = (I, J, R) := fun z => ⟨⟨0, rfl, Or.inr ⟨z, rfl⟩⟩, rfl⟩
  by_cases h0 : s.1 = 0
  · by_cases h3 : (tq f n s.2).1 = 3
    · have ev := hc1.2.2.2 (Or.inr h3)
      have hv3 := hv s.2 h3
      by_cases hvc : (tq f n s.2).2.2.2 = c
      · refine b_aload_n rfl rfl ?_
        refine b_getI rfl (by first | rfl | assumption) rfl ?_
        rw [h8]
        refine b_if_ne rfl (fun c_4 => ?_) (fun c_4 => ?_)
        · exact absurd (show nI s.1 = 0 by rw [h0]; rfl) c_4
        · refine b_aload_n rfl rfl ?_
          refine b_getR rfl (by first | rfl | assumption) rfl (by assumption) ?_
          refine b_aload_n rfl rfl ?_
          refine b_getI rfl (by first | rfl | assumption) rfl ?_
          rw [h7]
          refine b_iaload rfl (by first | rfl | assumption) (nI_toInt (n := s.2) (by omega)) (by omega) ?_
          rw [hc1.1, h3]
          refine b_iconst rfl ?_
          refine b_icmp_ne rfl (fun c_17 => ?_) (fun c_17 => ?_)
          · exact absurd rfl c_17
          · refine b_aload_n rfl rfl ?_
            refine b_getR rfl (by first | rfl | assumption) rfl (by assumption) ?_
            refine b_aload_n rfl rfl ?_
            refine b_getI rfl (by first | rfl | assumption) rfl ?_
            rw [h7]
            refine b_laload rfl (by first | rfl | assumption) (by decide) (nI_toInt (n := s.2) (by omega)) (by omega) ?_
            rw [ev, hvc]
            refine b_iload_n rfl rfl ?_
            refine b_i2l rfl ?_
            rw [nI_J (by omega)]
            refine b_lcmp rfl ?_
            refine b_if_ne rfl (fun c_32 => ?_) (fun c_32 => ?_)
            · exact absurd ((lg_cmp_eq _ _).mpr rfl) c_32
            · refine b_iconst rfl ?_
              refine b_goto rfl ?_
              exact b_ireturn rfl (by first | exact Or.inl rfl | exact Or.inr rfl | exact trivial) (⟨⟨1, rfl, Or.inl ⟨⟨h0, h3, hvc⟩, rfl⟩⟩, rfl⟩)
      · refine b_aload_n rfl rfl ?_
        refine b_getI rfl (by first | rfl | assumption) rfl ?_
        rw [h8]
        refine b_if_ne rfl (fun c_4 => ?_) (fun c_4 => ?_)
        · exact absurd (show nI s.1 = 0 by rw [h0]; rfl) c_4
        · refine b_aload_n rfl rfl ?_
          refine b_getR rfl (by first | rfl | assumption) rfl (by assumption) ?_
          refine b_aload_n rfl rfl ?_
          refine b_getI rfl (by first | rfl | assumption) rfl ?_
          rw [h7]
          refine b_iaload rfl (by first | rfl | assumption) (nI_toInt (n := s.2) (by omega)) (by omega) ?_
          rw [hc1.1, h3]
          refine b_iconst rfl ?_
          refine b_icmp_ne rfl (fun c_17 => ?_) (fun c_17 => ?_)
          · exact absurd rfl c_17
          · refine b_aload_n rfl rfl ?_
            refine b_getR rfl (by first | rfl | assumption) rfl (by assumption) ?_
            refine b_aload_n rfl rfl ?_
            refine b_getI rfl (by first | rfl | assumption) rfl ?_
            rw [h7]
            refine b_laload rfl (by first | rfl | assumption) (by decide) (nI_toInt (n := s.2) (by omega)) (by omega) ?_
            rw [ev]
            refine b_iload_n rfl rfl ?_
            refine b_i2l rfl ?_
            rw [nI_J (by omega)]
            refine b_lcmp rfl ?_
            refine b_if_ne rfl (fun c_32 => ?_) (fun c_32 => ?_)
            · refine b_iconst rfl ?_
              exact b_ireturn rfl (by first | exact Or.inl rfl | exact Or.inr rfl | exact trivial) ((no (fun z => hvc z.2.2)))
            · exact absurd ((nJ_e (by omega) (by omega)).mp ((lg_cmp_eq _ _).mp c_32)) hvc
    · refine b_aload_n rfl rfl ?_
      refine b_getI rfl (by first | rfl | assumption) rfl ?_
      rw [h8]
      refine b_if_ne rfl (fun c_4 => ?_) (fun c_4 => ?_)
      · exact absurd (show nI s.1 = 0 by rw [h0]; rfl) c_4
      · refine b_aload_n rfl rfl ?_
        refine b_getR rfl (by first | rfl | assumption) rfl (by assumption) ?_
        refine b_aload_n rfl rfl ?_
        refine b_getI rfl (by first | rfl | assumption) rfl ?_
        rw [h7]
        refine b_iaload rfl (by first | rfl | assumption) (nI_toInt (n := s.2) (by omega)) (by omega) ?_
        rw [hc1.1]
        refine b_iconst rfl ?_
        refine b_icmp_ne rfl (fun c_17 => ?_) (fun c_17 => ?_)
        · refine b_iconst rfl ?_
          exact b_ireturn rfl (by first | exact Or.inl rfl | exact Or.inr rfl | exact trivial) ((no (fun z => h3 z.2.1)))
        · exact absurd ((hi_nIe (k := 3) (by omega) (by omega)).mp c_17) h3
  · refine b_aload_n rfl rfl ?_
    refine b_getI rfl (by first | rfl | assumption) rfl ?_
    rw [h8]
    refine b_if_ne rfl (fun c_4 => ?_) (fun c_4 => ?_)
    · refine b_iconst rfl ?_
      exact b_ireturn rfl (by first | exact Or.inl rfl | exact Or.inr rfl | exact trivial) ((no (fun z => h0 z.1)))
    · exact absurd ((hi_nIe (k := 0) (by omega) (by omega)).mp c_4) h0
theorem wi_of (v : Nat) : ∀ m, wi v m = 1 ∨ wlN.getD (wi v m) 0 = v
  | 0 => Or.inl rfl
  | m + 1 => by
    have e : wi v (m + 1) = if wlN.getD m 0 = v then m else wi v m := rfl
    rw [e]
    split
    · rename_i h; exact Or.inr h
    · exact wi_of v m
theorem wi_is {v w : Nat} (hw : w < 24) : wi v 26 = w + 2 ↔ v = wlN.getD (w + 2) 0 := by
  have key : ∀ w : Fin 24, wi (wlN.getD (w.val + 2) 0) 26 = w.val + 2 := by decide +kernel
  refine ⟨fun z => ?_, fun z => ?_⟩
  · have h := wi_of v 26
    rw [z] at h
    rcases h with h | h
    · omega
    · exact h.symm
  · rw [z]; exact key ⟨w, hw⟩
theorem wl_27 {i : Nat} (h : i < 26) : wlN.getD i 0 < 27 ^ 8 := by
  have h1 := (wlN_of h).2
  have : (27 : Nat) ^ 8 = 282429536481 := by decide
  omega
theorem nJ_cv {a b : Nat} (ha : a < 27 ^ 8) (hb : b < 27 ^ 8) : nJ (cv a) = nJ (cv b) ↔ a = b := by
  refine ⟨fun z => ?_, fun z => by rw [z]⟩
  have h1 := cv_lt 8 a
  have h2 := cv_lt 8 b
  have h3 : (37 : Nat) ^ 8 = 3512479453921 := by decide
  have z1 := nJ_toInt (n := cv a) (by show cvF 8 a < _; omega)
  rw [z, nJ_toInt (by show cvF 8 b < _; omega)] at z1
  exact cv_inj 8 a b ha hb (by show cv a = cv b; omega)
theorem q_M_isWord {f : Nat → Nat} {n E w : Nat} {x : Int32} {s : rd} (hM : hs_M R) (hW : hs_Wm J) (h : hs_Rm I J f n E s) (hw : w < 24) (hx : x = nI w) : hn_F 0 hm_M_isWord [.ref 188, .int x] (I, J, R) (fun r D' => (∃ b, r = some (.int b) ∧ fg (s.1 = 0 ∧ wx (tq f n s.2) = w + 2) b) ∧ D' = (I, J, R)) := by
  subst hx
  refine hn_F_of _ hk_M_isWord rfl (Nat.le_of_ble_eq_true rfl) ?_
  obtain ⟨m1, m4, m5, m6, m9, m10, m11, m12, m14, m15, m16, m17, m20, m21, m22, m23, m25, m27, m28, m29, m30, m31, m32⟩ := id hM
  obtain ⟨hn, ht, h7, h8, hk, hb⟩ := id h
  have hE := ht.1
  have hc1 := tt_at ht hk
  have hl4 := (tq_le f n s.2).2.2
  have no : ¬ (s.1 = 0 ∧ wx (tq f n s.2) = w + 2) → (∃ b, some (Value.int 0) = some (.int b) ∧ fg (s.1 = 0 ∧ wx (tq f n s.2) = w + 2) b) ∧ (I, J, R) = (I, J, R) := fun z => ⟨⟨0, rfl, Or.inr ⟨z, rfl⟩⟩, rfl⟩
  by_cases h0 : s.1 = 0
  · by_cases h3 : (tq f n s.2).1 = 1
    · have ev := hc1.2.2.1 h3
      have hv3 := ((tq_9 (f := f) (n := n) s.2).2 h3).1
      have ewx : wx (tq f n s.2) = wi (tq f n s.2).2.2.2 26 := if_pos h3
      by_cases hvc : wx (tq f n s.2) = w + 2
      · have evv := (wi_is hw).mp (ewx.symm.trans hvc)
        refine b_aload_n rfl rfl ?_
        refine b_getI rfl (by first | rfl | assumption) rfl ?_
        rw [h8]
        refine b_if_ne rfl (fun c_4 => ?_) (fun c_4 => ?_)
        · exact absurd (show nI s.1 = 0 by rw [h0]; rfl) c_4
        · refine b_aload_n rfl rfl ?_
          refine b_getR rfl (by first | rfl | assumption) rfl (by assumption) ?_
          refine b_aload_n rfl rfl ?_
          refine b_getI rfl (by first | rfl | assumption) rfl ?_
          rw [h7]
          refine b_iaload rfl (by first | rfl | assumption) (nI_toInt (n := s.2) (by omega)) (by omega) ?_
          rw [hc1.1, h3]
          refine b_iconst rfl ?_
          refine b_icmp_ne rfl (fun c_17 => ?_) (fun c_17 => ?_)
          · exact absurd rfl c_17
          · refine b_aload_n rfl rfl ?_
            refine b_getR rfl (by first | rfl | assumption) rfl (by assumption) ?_
            refine b_aload_n rfl rfl ?_
            refine b_getI rfl (by first | rfl | assumption) rfl ?_
            rw [h7]
            refine b_laload rfl (by first | rfl | assumption) (by decide) (nI_toInt (n := s.2) (by omega)) (by omega) ?_
            rw [ev, evv]
            refine b_aload_n rfl rfl ?_
            refine b_getR rfl (by first | rfl | assumption) rfl (by assumption) ?_
            refine b_iload_n rfl rfl ?_
            refine b_laload rfl (by first | rfl | assumption) (by decide) (nI_toInt (n := w) (by omega)) (by omega) ?_
            rw [hW w hw]
            refine b_lcmp rfl ?_
            refine b_if_ne rfl (fun c_36 => ?_) (fun c_36 => ?_)
            · exact absurd ((lg_cmp_eq _ _).mpr rfl) c_36
            · refine b_iconst rfl ?_
              refine b_goto rfl ?_
              exact b_ireturn rfl (by first | exact Or.inl rfl | exact Or.inr rfl | exact trivial) (⟨⟨1, rfl, Or.inl ⟨⟨h0, hvc⟩, rfl⟩⟩, rfl⟩)
      · refine b_aload_n rfl rfl ?_
        refine b_getI rfl (by first | rfl | assumption) rfl ?_
        rw [h8]
        refine b_if_ne rfl (fun c_4 => ?_) (fun c_4 => ?_)
        · exact absurd (show nI s.1 = 0 by rw [h0]; rfl) c_4
        · refine b_aload_n rfl rfl ?_
          refine b_getR rfl (by first | rfl | assumption) rfl (by assumption) ?_
          refine b_aload_n rfl rfl ?_
          refine b_getI rfl (by first | rfl | assumption) rfl ?_
          rw [h7]
          refine b_iaload rfl (by first | rfl | assumption) (nI_toInt (n := s.2) (by omega)) (by omega) ?_
          rw [hc1.1, h3]
          refine b_iconst rfl ?_
          refine b_icmp_ne rfl (fun c_17 => ?_) (fun c_17 => ?_)
          · exact absurd rfl c_17
          · refine b_aload_n rfl rfl ?_
            refine b_getR rfl (by first | rfl | assumption) rfl (by assumption) ?_
            refine b_aload_n rfl rfl ?_
            refine b_getI rfl (by first | rfl | assumption) rfl ?_
            rw [h7]
            refine b_laload rfl (by first | rfl | assumption) (by decide) (nI_toInt (n := s.2) (by omega)) (by omega) ?_
            rw [ev]
            refine b_aload_n rfl rfl ?_
            refine b_getR rfl (by first | rfl | assumption) rfl (by assumption) ?_
            refine b_iload_n rfl rfl ?_
            refine b_laload rfl (by first | rfl | assumption) (by decide) (nI_toInt (n := w) (by omega)) (by omega) ?_
            rw [hW w hw]
            refine b_lcmp rfl ?_
            refine b_if_ne rfl (fun c_36 => ?_) (fun c_36 => ?_)
            · refine b_iconst rfl ?_
              exact b_ireturn rfl (by first | exact Or.inl rfl | exact Or.inr rfl | exact trivial) ((no (fun z => hvc z.2)))
            · exact absurd (ewx.trans ((wi_is hw).mpr ((nJ_cv hv3 (wl_27 (by omega))).mp ((lg_cmp_eq _ _).mp c_36)))) hvc
    · have ewx : wx (tq f n s.2) = 0 := if_neg h3
      refine b_aload_n rfl rfl ?_
      refine b_getI rfl (by first | rfl | assumption) rfl ?_
      rw [h8]
      refine b_if_ne rfl (fun c_4 => ?_) (fun c_4 => ?_)
      · exact absurd (show nI s.1 = 0 by rw [h0]; rfl) c_4
      · refine b_aload_n rfl rfl ?_
        refine b_getR rfl (by first | rfl | assumption) rfl (by assumption) ?_
        refine b_aload_n rfl rfl ?_
        refine b_getI rfl (by first | rfl | assumption) rfl ?_
        rw [h7]
        refine b_iaload rfl (by first | rfl | assumption) (nI_toInt (n := s.2) (by omega)) (by omega) ?_
        rw [hc1.1]
        refine b_iconst rfl ?_
        refine b_icmp_ne rfl (fun c_17 => ?_) (fun c_17 => ?_)
        · refine b_iconst rfl ?_
          exact b_ireturn rfl (by first | exact Or.inl rfl | exact Or.inr rfl | exact trivial) ((no (fun z => by rw [ewx] at z; omega)))
        · exact absurd ((hi_nIe (k := 1) (by omega) (by omega)).mp c_17) h3
  · refine b_aload_n rfl rfl ?_
    refine b_getI rfl (by first | rfl | assumption) rfl ?_
    rw [h8]
    refine b_if_ne rfl (fun c_4 => ?_) (fun c_4 => ?_)
    · refine b_iconst rfl ?_
      exact b_ireturn rfl (by first | exact Or.inl rfl | exact Or.inr rfl | exact trivial) ((no (fun z => h0 z.1)))
    · exact absurd ((hi_nIe (k := 0) (by omega) (by omega)).mp c_4) h0
def p_s (f : Nat → Nat) (n c : Nat) (s : rd) : rd := if s.1 = 0 then p_u f n (¬ p_isS (tq f n s.2) c) 1 s else s
theorem isS_0 {x : tk} {c : Nat} (h : p_isS x c) : ¬ x.1 = 0 := fun z => by have := h.1; omega
theorem wx_0 {x : tk} (h : ¬ wx x = 0) : ¬ x.1 = 0 := fun z => h (if_neg (by omega))
theorem q_M_takeSign {f : Nat → Nat} {n E c : Nat} {s : rd} (hM : hs_M R) (hv : ∀ k, (tq f n k).1 = 3 → (tq f n k).2.2.2 < 128) (h : hs_Rm I J f n E s) (hc : c < 128) : hn_F 1 hm_M_takeSign [.ref 188, .int (nI c)] (I, J, R) (fun r D' => r = none ∧ hs_mp I J R f n E (p_s f n c s) D') := by
  refine hn_F_of _ hk_M_takeSign rfl (Nat.le_of_ble_eq_true rfl) ?_
  have h7 := h.2.2.1
  by_cases hs : s.1 = 0 ∧ p_isS (tq f n s.2) c
  · have e : p_s f n c s = (0, s.2 + 1) := (if_pos hs.1).trans (if_neg (fun z => z hs.2))
    rw [e]
    refine b_aload_n rfl rfl ?_
    refine b_iload_n rfl rfl ?_
    refine b_callV rfl rfl hk_M_isSign rfl rfl rfl (by first | rfl | assumption) rfl (Nat.le_of_ble_eq_true rfl) (q_M_isSign hM hv h hc) (Nat.le_of_ble_eq_true rfl) (fun r_2 D_2 q_2 => ?_)
    obtain ⟨⟨b, rfl, hb⟩, rfl⟩ := q_2
    refine b_if_eq rfl (fun c_5 => ?_) (fun c_5 => ?_)
    · rcases hb with ⟨_, hb⟩ | ⟨hb, _⟩ <;> first | exact absurd hs hb | (rw [hb] at c_5; exact absurd c_5 (by decide))
    · refine b_aload_n rfl rfl ?_
      refine b_dup rfl rfl ?_
      refine b_getI rfl (by first | rfl | assumption) rfl ?_
      refine b_iconst rfl ?_
      refine b_iadd rfl ?_
      rw [h7, ← nI_succ]
      refine b_putI rfl (by first | rfl | assumption) rfl rfl ⟨rfl, rfl⟩ ?_
      refine b_goto rfl ?_
      exact b_return_ rfl trivial (⟨rfl, mp_on h hs.1 (isS_0 hs.2)⟩)
  · have e : p_s f n c s = p_f f n 1 s := by
      unfold p_s p_f
      by_cases h0 : s.1 = 0
      · rw [if_pos h0, if_pos h0]; exact if_pos (fun z => hs ⟨h0, z⟩)
      · rw [if_neg h0, if_neg h0]
    rw [e]
    refine b_aload_n rfl rfl ?_
    refine b_iload_n rfl rfl ?_
    refine b_callV rfl rfl hk_M_isSign rfl rfl rfl (by first | rfl | assumption) rfl (Nat.le_of_ble_eq_true rfl) (q_M_isSign hM hv h hc) (Nat.le_of_ble_eq_true rfl) (fun r_2 D_2 q_2 => ?_)
    obtain ⟨⟨b, rfl, hb⟩, rfl⟩ := q_2
    refine b_if_eq rfl (fun c_5 => ?_) (fun c_5 => ?_)
    · refine b_aload_n rfl rfl ?_
      refine b_iconst rfl ?_
      refine b_callV rfl rfl hk_M_wrong rfl rfl rfl (by first | rfl | assumption) rfl (Nat.le_of_ble_eq_true rfl) (q_M_wrong (c := 1) hM h (by omega)) (Nat.le_of_ble_eq_true rfl) (fun r_23 D_23 q_23 => ?_)
      obtain ⟨rfl, hq⟩ := q_23
      exact b_return_ rfl trivial (⟨rfl, hq⟩)
    · rcases hb with ⟨hb, _⟩ | ⟨_, hb⟩ <;> first | exact absurd hb hs | exact absurd hb c_5
theorem q_M_hasSign {f : Nat → Nat} {n E c : Nat} {s : rd} (hM : hs_M R) (hv : ∀ k, (tq f n k).1 = 3 → (tq f n k).2.2.2 < 128) (h : hs_Rm I J f n E s) (hc : c < 128) : hn_F 1 hm_M_hasSign [.ref 188, .int (nI c)] (I, J, R) (fun r D' => (∃ b, r = some (.int b) ∧ fg (s.1 = 0 ∧ p_isS (tq f n s.2) c) b) ∧ hs_mp I J R f n E (if s.1 = 0 ∧ p_isS (tq f n s.2) c then (0, s.2 + 1) else s) D') := by
  refine hn_F_of _ hk_M_hasSign rfl (Nat.le_of_ble_eq_true rfl) ?_
  have h7 := h.2.2.1
  by_cases hs : s.1 = 0 ∧ p_isS (tq f n s.2) c
  · have post : (∃ b, some (Value.int 1) = some (.int b) ∧ fg (s.1 = 0 ∧ p_isS (tq f n s.2) c) b) ∧ hs_mp I J R f n E (if s.1 = 0 ∧ p_isS (tq f n s.2) c then (0, s.2 + 1) else s) (hn_u I 188 7 (nI (s.2 + 1)), J, R) := by
      rw [if_pos hs]; exact ⟨⟨1, rfl, Or.inl ⟨hs, rfl⟩⟩, mp_on h hs.1 (isS_0 hs.2)⟩
    refine b_aload_n rfl rfl ?_
    refine b_iload_n rfl rfl ?_
    refine b_callV rfl rfl hk_M_isSign rfl rfl rfl (by first | rfl | assumption) rfl (Nat.le_of_ble_eq_true rfl) (q_M_isSign hM hv h hc) (Nat.le_of_ble_eq_true rfl) (fun r_2 D_2 q_2 => ?_)
    obtain ⟨⟨b, rfl, hb⟩, rfl⟩ := q_2
    have hb1 : b = 1 := (by rcases hb with ⟨_, hb⟩ | ⟨hb, _⟩; (exact hb); (exact absurd hs hb))
    subst hb1
    refine b_istore_n rfl (Nat.le_of_ble_eq_true rfl) ?_
    refine b_aload_n rfl rfl ?_
    refine b_dup rfl rfl ?_
    refine b_getI rfl (by first | rfl | assumption) rfl ?_
    refine b_iload_n rfl rfl ?_
    refine b_if_eq rfl (fun c_12 => ?_) (fun c_12 => ?_)
    · exact absurd c_12 (by decide)
    · refine b_iconst rfl ?_
      refine b_goto rfl ?_
      refine b_iadd rfl ?_
      rw [h7, ← nI_succ]
      refine b_putI rfl (by first | rfl | assumption) rfl rfl ⟨rfl, rfl⟩ ?_
      refine b_iload_n rfl rfl ?_
      exact b_ireturn rfl (by first | exact Or.inl rfl | exact Or.inr rfl | exact trivial) (post)
  · have post : (∃ b, some (Value.int 0) = some (.int b) ∧ fg (s.1 = 0 ∧ p_isS (tq f n s.2) c) b) ∧ hs_mp I J R f n E (if s.1 = 0 ∧ p_isS (tq f n s.2) c then (0, s.2 + 1) else s) (hn_u I 188 7 (nI s.2), J, R) := by
      rw [if_neg hs]; exact ⟨⟨0, rfl, Or.inr ⟨hs, rfl⟩⟩, _, rfl, mf_7, hs_Rm_s h mf_7 (by rw [hn_u_eq, va_up, if_pos rfl]) (by rw [hn_u_eq, va_up, if_neg (by omega)]; exact h.2.2.2.1) h.2.2.2.2.1 h.2.2.2.2.2⟩
    refine b_aload_n rfl rfl ?_
    refine b_iload_n rfl rfl ?_
    refine b_callV rfl rfl hk_M_isSign rfl rfl rfl (by first | rfl | assumption) rfl (Nat.le_of_ble_eq_true rfl) (q_M_isSign hM hv h hc) (Nat.le_of_ble_eq_true rfl) (fun r_2 D_2 q_2 => ?_)
    obtain ⟨⟨b, rfl, hb⟩, rfl⟩ := q_2
    have hb1 : b = 0 := (by rcases hb with ⟨hb, _⟩ | ⟨_, hb⟩; (exact absurd hb hs); (exact hb))
    subst hb1
    refine b_istore_n rfl (Nat.le_of_ble_eq_true rfl) ?_
    refine b_aload_n rfl rfl ?_
    refine b_dup rfl rfl ?_
    refine b_getI rfl (by first | rfl | assumption) rfl ?_
    refine b_iload_n rfl rfl ?_
    refine b_if_eq rfl (fun c_12 => ?_) (fun c_12 => ?_)
    · refine b_iconst rfl ?_
      refine b_iadd rfl ?_
      rw [h7, Int32.add_zero]
      refine b_putI rfl (by first | rfl | assumption) rfl rfl ⟨rfl, rfl⟩ ?_
      refine b_iload_n rfl rfl ?_
      exact b_ireturn rfl (by first | exact Or.inl rfl | exact Or.inr rfl | exact trivial) (post)
    · exact absurd rfl c_12
theorem q_M_hasWord {f : Nat → Nat} {n E w : Nat} {x : Int32} {s : rd} (hM : hs_M R) (hW : hs_Wm J) (h : hs_Rm I J f n E s) (hw : w < 24) (hx : x = nI w) : hn_F 1 hm_M_hasWord [.ref 188, .int x] (I, J, R) (fun r D' => (∃ b, r = some (.int b) ∧ fg (s.1 = 0 ∧ wx (tq f n s.2) = w + 2) b) ∧ hs_mp I J R f n E (if s.1 = 0 ∧ wx (tq f n s.2) = w + 2 then (0, s.2 + 1) else s) D') := by
  refine hn_F_of _ hk_M_hasWord rfl (Nat.le_of_ble_eq_true rfl) ?_
  have h7 := h.2.2.1
  by_cases hs : s.1 = 0 ∧ wx (tq f n s.2) = w + 2
  · have post : (∃ b, some (Value.int 1) = some (.int b) ∧ fg (s.1 = 0 ∧ wx (tq f n s.2) = w + 2) b) ∧ hs_mp I J R f n E (if s.1 = 0 ∧ wx (tq f n s.2) = w + 2 then (0, s.2 + 1) else s) (hn_u I 188 7 (nI (s.2 + 1)), J, R) := by
      rw [if_pos hs]; exact ⟨⟨1, rfl, Or.inl ⟨hs, rfl⟩⟩, mp_on h hs.1 (wx_0 (by omega))⟩
    refine b_aload_n rfl rfl ?_
    refine b_iload_n rfl rfl ?_
    refine b_callV rfl rfl hk_M_isWord rfl rfl rfl (by first | rfl | assumption) rfl (Nat.le_of_ble_eq_true rfl) (q_M_isWord hM hW h hw hx) (Nat.le_of_ble_eq_true rfl) (fun r_2 D_2 q_2 => ?_)
    obtain ⟨⟨b, rfl, hb⟩, rfl⟩ := q_2
    have hb1 : b = 1 := (by rcases hb with ⟨_, hb⟩ | ⟨hb, _⟩; (exact hb); (exact absurd hs hb))
    subst hb1
    refine b_istore_n rfl (Nat.le_of_ble_eq_true rfl) ?_
    refine b_aload_n rfl rfl ?_
    refine b_dup rfl rfl ?_
    refine b_getI rfl (by first | rfl | assumption) rfl ?_
    refine b_iload_n rfl rfl ?_
    refine b_if_eq rfl (fun c_12 => ?_) (fun c_12 => ?_)
    · exact absurd c_12 (by decide)
    · refine b_iconst rfl ?_
      refine b_goto rfl ?_
      refine b_iadd rfl ?_
      rw [h7, ← nI_succ]
      refine b_putI rfl (by first | rfl | assumption) rfl rfl ⟨rfl, rfl⟩ ?_
      refine b_iload_n rfl rfl ?_
      exact b_ireturn rfl (by first | exact Or.inl rfl | exact Or.inr rfl | exact trivial) (post)
  · have post : (∃ b, some (Value.int 0) = some (.int b) ∧ fg (s.1 = 0 ∧ wx (tq f n s.2) = w + 2) b) ∧ hs_mp I J R f n E (if s.1 = 0 ∧ wx (tq f n s.2) = w + 2 then (0, s.2 + 1) else s) (hn_u I 188 7 (nI s.2), J, R) := by
      rw [if_neg hs]; exact ⟨⟨0, rfl, Or.inr ⟨hs, rfl⟩⟩, _, rfl, mf_7, hs_Rm_s h mf_7 (by rw [hn_u_eq, va_up, if_pos rfl]) (by rw [hn_u_eq, va_up, if_neg (by omega)]; exact h.2.2.2.1) h.2.2.2.2.1 h.2.2.2.2.2⟩
    refine b_aload_n rfl rfl ?_
    refine b_iload_n rfl rfl ?_
    refine b_callV rfl rfl hk_M_isWord rfl rfl rfl (by first | rfl | assumption) rfl (Nat.le_of_ble_eq_true rfl) (q_M_isWord hM hW h hw hx) (Nat.le_of_ble_eq_true rfl) (fun r_2 D_2 q_2 => ?_)
    obtain ⟨⟨b, rfl, hb⟩, rfl⟩ := q_2
    have hb1 : b = 0 := (by rcases hb with ⟨hb, _⟩ | ⟨_, hb⟩; (exact absurd hb hs); (exact hb))
    subst hb1
    refine b_istore_n rfl (Nat.le_of_ble_eq_true rfl) ?_
    refine b_aload_n rfl rfl ?_
    refine b_dup rfl rfl ?_
    refine b_getI rfl (by first | rfl | assumption) rfl ?_
    refine b_iload_n rfl rfl ?_
    refine b_if_eq rfl (fun c_12 => ?_) (fun c_12 => ?_)
    · refine b_iconst rfl ?_
      refine b_iadd rfl ?_
      rw [h7, Int32.add_zero]
      refine b_putI rfl (by first | rfl | assumption) rfl rfl ⟨rfl, rfl⟩ ?_
      refine b_iload_n rfl rfl ?_
      exact b_ireturn rfl (by first | exact Or.inl rfl | exact Or.inr rfl | exact trivial) (post)
    · exact absurd rfl c_12
theorem q_M_takeWord {f : Nat → Nat} {n E w : Nat} {x : Int32} {s : rd} (hM : hs_M R) (hW : hs_Wm J) (h : hs_Rm I J f n E s) (hw : w < 24) (hx : x = nI w) : hn_F 2 hm_M_takeWord [.ref 188, .int x] (I, J, R) (fun r D' => r = none ∧ hs_mp I J R f n E (p_w f n (w + 2) s) D') := by
  refine hn_F_of _ hk_M_takeWord rfl (Nat.le_of_ble_eq_true rfl) ?_
  have hq0 := q_M_hasWord (J := J) hM hW h hw hx
  by_cases hs : s.1 = 0 ∧ wx (tq f n s.2) = w + 2
  · have e : p_w f n (w + 2) s = (0, s.2 + 1) := (if_pos hs.1).trans (if_neg (fun z => z hs.2))
    rw [e]
    rw [if_pos hs] at hq0
    refine b_aload_n rfl rfl ?_
    refine b_iload_n rfl rfl ?_
    refine b_callV rfl rfl hk_M_hasWord rfl rfl rfl (by first | rfl | assumption) rfl (Nat.le_of_ble_eq_true rfl) (hq0) (Nat.le_of_ble_eq_true rfl) (fun r_2 D_2 q_2 => ?_)
    obtain ⟨⟨b, rfl, hb⟩, hq⟩ := q_2
    refine b_if_ne rfl (fun c_5 => ?_) (fun c_5 => ?_)
    · exact b_return_ rfl trivial (⟨rfl, hq⟩)
    · rcases hb with ⟨_, hb⟩ | ⟨hb, _⟩ <;> first | exact absurd hs hb | (rw [hb] at c_5; exact absurd c_5 (by decide))
  · have e : p_w f n (w + 2) s = p_f f n 1 s := by
      unfold p_w p_f
      by_cases h0 : s.1 = 0
      · rw [if_pos h0, if_pos h0]; exact if_pos (fun z => hs ⟨h0, z⟩)
      · rw [if_neg h0, if_neg h0]
    rw [e]
    rw [if_neg hs] at hq0
    refine b_aload_n rfl rfl ?_
    refine b_iload_n rfl rfl ?_
    refine b_callV rfl rfl hk_M_hasWord rfl rfl rfl (by first | rfl | assumption) rfl (Nat.le_of_ble_eq_true rfl) (hq0) (Nat.le_of_ble_eq_true rfl) (fun r_2 D_2 q_2 => ?_)
    obtain ⟨⟨b, rfl, hb⟩, I2, rfl, g2, k2⟩ := q_2
    refine b_if_ne rfl (fun c_5 => ?_) (fun c_5 => ?_)
    · rcases hb with ⟨hb, _⟩ | ⟨_, hb⟩ <;> first | exact absurd hb hs | exact absurd hb c_5
    · refine b_aload_n rfl rfl ?_
      refine b_iconst rfl ?_
      refine b_callV rfl rfl hk_M_wrong rfl rfl rfl (by first | rfl | assumption) rfl (Nat.le_of_ble_eq_true rfl) (q_M_wrong (c := 1) hM k2 (by omega)) (Nat.le_of_ble_eq_true rfl) (fun r_10 D_10 q_10 => ?_)
      obtain ⟨rfl, I3, rfl, g3, k3⟩ := q_10
      exact b_return_ rfl trivial (⟨rfl, I3, rfl, hs_mf_t g2 g3, k3⟩)
end HNmreader
