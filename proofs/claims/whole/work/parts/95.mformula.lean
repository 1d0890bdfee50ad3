section HNmformula
variable {I I' : Nat → Nat → Int32} {J J' : Nat → Nat → Int64} {R R' : Nat → Nat → Option Nat}
/-! the reference reads a law -/
def rdx (f : Nat → Nat) (n : Nat) (x : mst) : rd := if x.1 = 0 then (0, x.2.1) else fl f n x.1 (0, x.2.1)
theorem rdx_0 {f : Nat → Nat} {n : Nat} {x : mst} (h : x.1 = 0) : rdx f n x = (0, x.2.1) := if_pos h
theorem rdx_1 {f : Nat → Nat} {n : Nat} {x : mst} : (rdx f n x).1 = 0 ↔ x.1 = 0 := by
  unfold rdx
  by_cases h : x.1 = 0
  · rw [if_pos h]; exact ⟨fun _ => h, fun _ => rfl⟩
  · rw [if_neg h]; exact ⟨fun z => absurd z (fl_ne (by omega)), fun z => absurd z h⟩
theorem rdx_2 {f : Nat → Nat} {n : Nat} {x : mst} : (rdx f n x).2 = x.2.1 := by
  unfold rdx
  split <;> rfl
theorem rdx_f {f : Nat → Nat} {n c k : Nat} {C : List Int32} (hc : 0 < c) : rdx f n (c, k, C) = p_f f n c (0, k) := (if_neg (show ¬ c = 0 by omega)).trans (if_pos rfl).symm
theorem rdx_e {f : Nat → Nat} {n : Nat} {x : mst} {v : Int32} : rdx f n (e_m v x) = rdx f n x := rfl
/-- its codes -/
def hs_Cm (I : Nat → Nat → Int32) (C : List Int32) : Prop := I 188 13 = nI C.length ∧ ∀ i, i < C.length → mc_rel (I 195 (1100 + i)) (I 196 (1100 + i)) (C.getD (C.length - 1 - i) 0)
def hs_mg (I I' : Nat → Nat → Int32) : Prop := (∀ b, b ≠ 188 → b ≠ 195 → b ≠ 196 → I' b = I b) ∧ (∀ i, i ≠ 7 → i ≠ 8 → i ≠ 13 → I' 188 i = I 188 i) ∧ ∀ j, j < 1100 → I' 195 j = I 195 j ∧ I' 196 j = I 196 j
theorem hs_mg_r : hs_mg I I := ⟨fun _ _ _ _ => rfl, fun _ _ _ _ => rfl, fun _ _ => ⟨rfl, rfl⟩⟩
theorem hs_mg_t {I2 : Nat → Nat → Int32} (h : hs_mg I I') (g : hs_mg I' I2) : hs_mg I I2 := ⟨fun b h1 h2 h3 => (g.1 b h1 h2 h3).trans (h.1 b h1 h2 h3), fun i h1 h2 h3 => (g.2.1 i h1 h2 h3).trans (h.2.1 i h1 h2 h3), fun j hj => ⟨(g.2.2 j hj).1.trans (h.2.2 j hj).1, (g.2.2 j hj).2.trans (h.2.2 j hj).2⟩⟩
theorem hs_mg_f (g : hs_mf I I') : hs_mg I I' := ⟨fun b h1 _ _ => g.1 b h1, fun i h7 h8 _ => g.2 i h7 h8, fun j _ => ⟨by rw [g.1 195 (by omega)], by rw [g.1 196 (by omega)]⟩⟩
theorem hs_Cm_f {C : List Int32} (h : hs_Cm I C) (g : hs_mf I I') : hs_Cm I' C := by
  unfold hs_Cm at h ⊢
  rw [g.1 195 (by omega), g.1 196 (by omega), g.2 13 (by omega) (by omega)]
  exact h
def hs_mq (I : Nat → Nat → Int32) (J : Nat → Nat → Int64) (R : Nat → Nat → Option Nat) (f : Nat → Nat) (n E : Nat) (x : mst) (D' : hnD) : Prop := ∃ I2, D' = (I2, J, R) ∧ hs_mg I I2 ∧ hs_Rm I2 J f n E (rdx f n x) ∧ hs_Cm I2 x.2.2
theorem q_M_emit {f : Nat → Nat} {n E : Nat} {x : mst} {o a v : Int32} (hM : hs_M R) (h : hs_Rm I J f n E (rdx f n x)) (hC : hs_Cm I x.2.2) (hl : x.2.2.length < 1100) (hv : mc_rel o a v) : hn_F 0 hm_M_emit [.ref 188, .int o, .int a] (I, J, R) (fun r D' => r = none ∧ hs_mq I J R f n E (e_m v x) D') := by
  refine hn_F_of _ hk_M_emit rfl (Nat.le_of_ble_eq_true rfl) ?_
  obtain ⟨m1, m4, m5, m6, m9, m10, m11, m12, m14, m15, m16, m17, m20, m21, m22, m23, m25, m27, m28, m29, m30, m31, m32⟩ := id hM
  obtain ⟨c1, c2⟩ := hC
  obtain ⟨l, hle⟩ : ∃ l, l = x.2.2.length := ⟨_, rfl⟩
  rw [← hle] at c1 hl
  have e1 : (1100 : Int32) + nI l = nI (1100 + l) := (nI_ad 1100 l).symm
  have fin : ∀ I2, I2 = hn_u (hn_u (hn_u I 195 (1100 + l) o) 196 (1100 + l) a) 188 13 (nI (l + 1)) → hs_mq I J R f n E (e_m v x) (I2, J, R) := by
    intro I2 hI2
    have a195 : I2 195 = va_up (I 195) (1100 + l) o := by rw [hI2, hn_u_ne _ _ _ (by omega), hn_u_ne _ _ _ (by omega), hn_u_eq]
    have a196 : I2 196 = va_up (I 196) (1100 + l) a := by rw [hI2, hn_u_ne _ _ _ (by omega), hn_u_eq, hn_u_ne _ _ _ (by omega)]
    have a188 : ∀ j, j ≠ 13 → I2 188 j = I 188 j := fun j hj => by rw [hI2, hn_u_eq, va_up, if_neg hj, hn_u_ne _ _ _ (by omega), hn_u_ne _ _ _ (by omega)]
    have a0 : ∀ b, b ≠ 188 → b ≠ 195 → b ≠ 196 → I2 b = I b := fun b h1 h2 h3 => by rw [hI2, hn_u_ne _ _ _ h1, hn_u_ne _ _ _ h3, hn_u_ne _ _ _ h2]
    refine ⟨I2, rfl, ⟨a0, fun i _ _ h13 => a188 i h13, fun j hj => ⟨by rw [a195, va_up, if_neg (by omega)], by rw [a196, va_up, if_neg (by omega)]⟩⟩, ?_, ?_, ?_⟩
    · rw [rdx_e]
      exact ⟨h.1, hs_tt_c h.2.1 (a0 190 (by omega) (by omega) (by omega)) (a0 191 (by omega) (by omega) (by omega)), by rw [a188 7 (by omega)]; exact h.2.2.1, by rw [a188 8 (by omega)]; exact h.2.2.2.1, h.2.2.2.2⟩
    · show I2 188 13 = nI (x.2.2.length + 1)
      rw [hI2, hn_u_eq, va_up, if_pos rfl, hle]
    · intro i hi
      have hi : i < x.2.2.length + 1 := hi
      show mc_rel (I2 195 (1100 + i)) (I2 196 (1100 + i)) ((v :: x.2.2).getD (x.2.2.length + 1 - 1 - i) 0)
      by_cases hil : i = l
      · rw [a195, a196, va_up, va_up, if_pos (by omega), if_pos (by omega), show x.2.2.length + 1 - 1 - i = 0 by omega]
        exact hv
      · rw [a195, a196, va_up, va_up, if_neg (by omega), if_neg (by omega), show x.2.2.length + 1 - 1 - i = (x.2.2.length - 1 - i) + 1 by omega]
        exact c2 i (by omega)
  refine b_aload_n rfl rfl ?_
  refine b_getR rfl (by first | rfl | assumption) rfl (by assumption) ?_
  refine b_sipush rfl ?_
  refine b_aload_n rfl rfl ?_
  refine b_getI rfl (by first | rfl | assumption) rfl ?_
  rw [c1]
  refine b_iadd rfl ?_
  rw [e1]
  refine b_iload_n rfl rfl ?_
  refine b_iastore rfl (by first | rfl | assumption) (nI_toInt (n := 1100 + l) (by omega)) (by omega) ?_
  refine b_aload_n rfl rfl ?_
  refine b_getR rfl (by first | rfl | assumption) rfl (by assumption) ?_
  refine b_sipush rfl ?_
  refine b_aload_n rfl rfl ?_
  refine b_getI rfl (by first | rfl | assumption) rfl ?_
  have d1 : hn_u I 195 (1100 + l) o 188 13 = nI l := (by rw [hn_u_ne _ _ _ (by omega)]; exact c1)
  rw [d1]
  refine b_iadd rfl ?_
  rw [e1]
  refine b_iload_n rfl rfl ?_
  refine b_iastore rfl (by first | rfl | assumption) (nI_toInt (n := 1100 + l) (by omega)) (by omega) ?_
  refine b_aload_n rfl rfl ?_
  refine b_dup rfl rfl ?_
  refine b_getI rfl (by first | rfl | assumption) rfl ?_
  have d2 : hn_u (hn_u I 195 (1100 + l) o) 196 (1100 + l) a 188 13 = nI l := (by rw [hn_u_ne _ _ _ (by omega)]; exact d1)
  rw [d2]
  refine b_iconst rfl ?_
  refine b_iadd rfl ?_
  rw [← nI_succ]
  refine b_putI rfl (by first | rfl | assumption) rfl rfl ⟨rfl, rfl⟩ ?_
  exact b_return_ rfl trivial (⟨rfl, fin _ rfl⟩)
/-- what a procedure of the reference does to the reading -/
def cM (J : Nat → Nat → Int64) (R : Nat → Nat → Option Nat) (f : Nat → Nat) (n E d : Nat) (mt : hnM) (F : mst → mst) (dp : Nat) : Prop := ∀ (I : Nat → Nat → Int32) (x : mst), hs_Rm I J f n E (rdx f n x) → hs_Cm I x.2.2 → x.2.2.length ≤ x.2.1 → hn_F d mt [.ref 188, .int (nI dp)] (I, J, R) (fun r D' => r = none ∧ hs_mq I J R f n E (F x) D')
/-- as many tokens at least as codes -/
def hLn (F : mst → mst) : Prop := ∀ x, (F x).2.2.length + x.2.1 ≤ (F x).2.1 + x.2.2.length ∧ x.2.1 ≤ (F x).2.1
theorem hLn_l {T : Nat → tk} {sub : mst → mst} {q : Nat} (h : hLn sub) : ∀ (m : Nat) (x : mst), (lpq T sub q m x).2.2.length + x.2.1 ≤ (lpq T sub q m x).2.1 + x.2.2.length ∧ x.2.1 ≤ (lpq T sub q m x).2.1
  | 0, x => by show x.2.2.length + x.2.1 ≤ x.2.1 + x.2.2.length ∧ x.2.1 ≤ x.2.1; omega
  | m + 1, x => by
    have hu : lpq T sub q (m + 1) x = if x.1 = 0 ∧ lu_rk (lu_op (T x.2.1)) = q then lpq T sub q m (e_m (lu_op (T x.2.1)) (sub (0, x.2.1 + 1, x.2.2))) else x := rfl
    rw [hu]
    by_cases hx : x.1 = 0 ∧ lu_rk (lu_op (T x.2.1)) = q
    · rw [if_pos hx]
      have h1 := hLn_l (T := T) (q := q) h m (e_m (lu_op (T x.2.1)) (sub (0, x.2.1 + 1, x.2.2)))
      have h2 := h (0, x.2.1 + 1, x.2.2)
      have e1 : (e_m (lu_op (T x.2.1)) (sub (0, x.2.1 + 1, x.2.2))).2.1 = (sub (0, x.2.1 + 1, x.2.2)).2.1 := rfl
      have e2 : (e_m (lu_op (T x.2.1)) (sub (0, x.2.1 + 1, x.2.2))).2.2.length = (sub (0, x.2.1 + 1, x.2.2)).2.2.length + 1 := rfl
      have h2 : (sub (0, x.2.1 + 1, x.2.2)).2.2.length + (x.2.1 + 1) ≤ (sub (0, x.2.1 + 1, x.2.2)).2.1 + x.2.2.length ∧ x.2.1 + 1 ≤ (sub (0, x.2.1 + 1, x.2.2)).2.1 := h2
      omega
    · rw [if_neg hx]; omega
theorem hLn_ch {T : Nat → tk} {sub : mst → mst} {q m : Nat} (h : hLn sub) : hLn (fun s => lpq T sub q m (sub s)) := fun x => by
  have h1 := hLn_l (T := T) (q := q) h m (sub x)
  have h2 := h x
  show (lpq T sub q m (sub x)).2.2.length + x.2.1 ≤ (lpq T sub q m (sub x)).2.1 + x.2.2.length ∧ x.2.1 ≤ (lpq T sub q m (sub x)).2.1
  omega
theorem hLn_form {T : Nat → tk} {sub : mst → mst} (h : hLn sub) : hLn (m_form T sub) := hLn_ch (hLn_ch (hLn_ch (hLn_ch h)))
theorem hLn_t {z : mst} {x : mst} {T : Nat → tk} (h1 : z.2.2.length + (x.2.1 + 1) ≤ z.2.1 + x.2.2.length ∧ x.2.1 + 1 ≤ z.2.1) : (t_cl T z).2.2.length + x.2.1 ≤ (t_cl T z).2.1 + x.2.2.length ∧ x.2.1 ≤ (t_cl T z).2.1 := by
  unfold t_cl
  split
  · split
    · show z.2.2.length + x.2.1 ≤ z.2.1 + 1 + x.2.2.length ∧ x.2.1 ≤ z.2.1 + 1; omega
    · show z.2.2.length + x.2.1 ≤ z.2.1 + x.2.2.length ∧ x.2.1 ≤ z.2.1; omega
  · omega
theorem hLn_part {T : Nat → tk} : ∀ L, hLn (m_part T L)
  | 0 => fun x => by
    have hu : m_part T 0 x = if ¬ x.1 = 0 then x else if pt (T x.2.1) = -1 then (1, x.2) else (5, x.2) := rfl
    rw [hu]
    split
    · omega
    · split
      · show x.2.2.length + x.2.1 ≤ x.2.1 + x.2.2.length ∧ x.2.1 ≤ x.2.1; omega
      · show x.2.2.length + x.2.1 ≤ x.2.1 + x.2.2.length ∧ x.2.1 ≤ x.2.1; omega
  | L + 1 => fun x => by
    have ih := hLn_part (T := T) L
    have hu : m_part T (L + 1) x = if ¬ x.1 = 0 then x else if pt (T x.2.1) = -1 then (1, x.2) else if pt (T x.2.1) = 10004 then e_m 10004 (m_part T L (0, x.2.1 + 1, x.2.2)) else if pt (T x.2.1) = 10012 then t_cl T (m_form T (m_part T L) (0, x.2.1 + 1, x.2.2)) else (0, x.2.1 + 1, pt (T x.2.1) :: x.2.2) := rfl
    rw [hu]
    split
    · omega
    split
    · show x.2.2.length + x.2.1 ≤ x.2.1 + x.2.2.length ∧ x.2.1 ≤ x.2.1; omega
    split
    · have h1 : (m_part T L (0, x.2.1 + 1, x.2.2)).2.2.length + (x.2.1 + 1) ≤ (m_part T L (0, x.2.1 + 1, x.2.2)).2.1 + x.2.2.length ∧ x.2.1 + 1 ≤ (m_part T L (0, x.2.1 + 1, x.2.2)).2.1 := ih (0, x.2.1 + 1, x.2.2)
      show (m_part T L (0, x.2.1 + 1, x.2.2)).2.2.length + 1 + x.2.1 ≤ (m_part T L (0, x.2.1 + 1, x.2.2)).2.1 + x.2.2.length ∧ x.2.1 ≤ (m_part T L (0, x.2.1 + 1, x.2.2)).2.1
      omega
    split
    · exact hLn_t (hLn_form ih (0, x.2.1 + 1, x.2.2))
    · show x.2.2.length + 1 + x.2.1 ≤ x.2.1 + 1 + x.2.2.length ∧ x.2.1 ≤ x.2.1 + 1
      omega
/-! which operator stands here -/
theorem isS_2 {x : tk} {a b : Nat} (h : p_isS x a) (hab : ¬ a = b) : ¬ p_isS x b := fun z => hab (h.2.symm.trans z.2)
theorem isS_w {x : tk} {a : Nat} (h : p_isS x a) : wx x = 0 := if_neg (by have := h.1; omega)
theorem op_42 {x : tk} : lu_rk (lu_op x) = 4 ↔ p_isS x 42 := by
  unfold lu_op
  by_cases h1 : wx x = 20 ∨ wx x = 21
  · rw [if_pos h1]
    refine ⟨fun z => ?_, fun z => by have := isS_w z; omega⟩
    rcases h1 with h1 | h1 <;> rw [h1] at z <;> exact absurd z (by decide)
  rw [if_neg h1]
  by_cases h2 : p_isS x 60
  · rw [if_pos h2]; exact ⟨fun z => absurd z (by decide), fun z => absurd z (isS_2 h2 (by decide))⟩
  rw [if_neg h2]
  by_cases h3 : p_isS x 61
  · rw [if_pos h3]; exact ⟨fun z => absurd z (by decide), fun z => absurd z (isS_2 h3 (by decide))⟩
  rw [if_neg h3]
  by_cases h4 : p_isS x 43
  · rw [if_pos h4]; exact ⟨fun z => absurd z (by decide), fun z => absurd z (isS_2 h4 (by decide))⟩
  rw [if_neg h4]
  by_cases h5 : p_isS x 45
  · rw [if_pos h5]; exact ⟨fun z => absurd z (by decide), fun z => absurd z (isS_2 h5 (by decide))⟩
  rw [if_neg h5]
  by_cases h6 : p_isS x 42
  · rw [if_pos h6]; exact ⟨fun _ => h6, fun _ => by decide⟩
  · rw [if_neg h6]; exact ⟨fun z => absurd z (by decide), fun z => absurd z h6⟩
theorem op_43 {x : tk} : lu_rk (lu_op x) = 3 ↔ p_isS x 43 ∨ p_isS x 45 := by
  unfold lu_op
  by_cases h1 : wx x = 20 ∨ wx x = 21
  · rw [if_pos h1]
    refine ⟨fun z => ?_, fun z => by rcases z with z | z <;> have := isS_w z <;> omega⟩
    rcases h1 with h1 | h1 <;> rw [h1] at z <;> exact absurd z (by decide)
  rw [if_neg h1]
  by_cases h2 : p_isS x 60
  · rw [if_pos h2]; exact ⟨fun z => absurd z (by decide), fun z => by rcases z with z | z <;> exact absurd z (isS_2 h2 (by decide))⟩
  rw [if_neg h2]
  by_cases h3 : p_isS x 61
  · rw [if_pos h3]; exact ⟨fun z => absurd z (by decide), fun z => by rcases z with z | z <;> exact absurd z (isS_2 h3 (by decide))⟩
  rw [if_neg h3]
  by_cases h4 : p_isS x 43
  · rw [if_pos h4]; exact ⟨fun _ => Or.inl h4, fun _ => by decide⟩
  rw [if_neg h4]
  by_cases h5 : p_isS x 45
  · rw [if_pos h5]; exact ⟨fun _ => Or.inr h5, fun _ => by decide⟩
  rw [if_neg h5]
  by_cases h6 : p_isS x 42
  · rw [if_pos h6]; exact ⟨fun z => absurd z (by decide), fun z => by rcases z with z | z <;> exact absurd z (isS_2 h6 (by decide))⟩
  · rw [if_neg h6]; exact ⟨fun z => absurd z (by decide), fun z => z.elim (fun z => absurd z h4) (fun z => absurd z h5)⟩
theorem op_60 {x : tk} : lu_rk (lu_op x) = 2 ↔ p_isS x 60 ∨ p_isS x 61 := by
  unfold lu_op
  by_cases h1 : wx x = 20 ∨ wx x = 21
  · rw [if_pos h1]
    refine ⟨fun z => ?_, fun z => by rcases z with z | z <;> have := isS_w z <;> omega⟩
    rcases h1 with h1 | h1 <;> rw [h1] at z <;> exact absurd z (by decide)
  rw [if_neg h1]
  by_cases h2 : p_isS x 60
  · rw [if_pos h2]; exact ⟨fun _ => Or.inl h2, fun _ => by decide⟩
  rw [if_neg h2]
  by_cases h3 : p_isS x 61
  · rw [if_pos h3]; exact ⟨fun _ => Or.inr h3, fun _ => by decide⟩
  rw [if_neg h3]
  have no : ¬ (p_isS x 60 ∨ p_isS x 61) := fun z => z.elim h2 h3
  by_cases h4 : p_isS x 43
  · rw [if_pos h4]; exact ⟨fun z => absurd z (by decide), fun z => absurd z no⟩
  rw [if_neg h4]
  by_cases h5 : p_isS x 45
  · rw [if_pos h5]; exact ⟨fun z => absurd z (by decide), fun z => absurd z no⟩
  rw [if_neg h5]
  by_cases h6 : p_isS x 42
  · rw [if_pos h6]; exact ⟨fun z => absurd z (by decide), fun z => absurd z no⟩
  · rw [if_neg h6]; exact ⟨fun z => absurd z (by decide), fun z => absurd z no⟩
theorem op_20 {x : tk} : lu_rk (lu_op x) = 1 ↔ wx x = 20 ∨ wx x = 21 := by
  unfold lu_op
  by_cases h1 : wx x = 20 ∨ wx x = 21
  · rw [if_pos h1]
    refine ⟨fun _ => h1, fun _ => ?_⟩
    rcases h1 with h1 | h1 <;> rw [h1] <;> decide
  rw [if_neg h1]
  repeat' split
  all_goals exact ⟨fun z => absurd z (by decide), fun z => absurd z h1⟩
theorem op_v {x : tk} : (p_isS x 42 → lu_op x = 10011) ∧ (p_isS x 43 → lu_op x = 10009) ∧ (p_isS x 45 → lu_op x = 10010) ∧ (p_isS x 60 → lu_op x = 10007) ∧ (p_isS x 61 → lu_op x = 10008) ∧ (wx x = 20 → lu_op x = 10005) ∧ (wx x = 21 → lu_op x = 10006) := by
  have n : ∀ {a : Nat}, p_isS x a → ¬ (wx x = 20 ∨ wx x = 21) := fun z => by have := isS_w z; omega
  unfold lu_op
  refine ⟨fun z => ?_, fun z => ?_, fun z => ?_, fun z => ?_, fun z => ?_, fun z => ?_, fun z => ?_⟩
  · rw [if_neg (n z), if_neg (isS_2 z (by decide)), if_neg (isS_2 z (by decide)), if_neg (isS_2 z (by decide)), if_neg (isS_2 z (by decide)), if_pos z]
  · rw [if_neg (n z), if_neg (isS_2 z (by decide)), if_neg (isS_2 z (by decide)), if_pos z]
  · rw [if_neg (n z), if_neg (isS_2 z (by decide)), if_neg (isS_2 z (by decide)), if_neg (isS_2 z (by decide)), if_pos z]
  · rw [if_neg (n z), if_pos z]
  · rw [if_neg (n z), if_neg (isS_2 z (by decide)), if_pos z]
  · rw [if_pos (Or.inl z), z]; rfl
  · rw [if_pos (Or.inr z), z]; rfl
end HNmformula
