section HNmloops
variable {I I' : Nat → Nat → Int32} {J J' : Nat → Nat → Int64} {R R' : Nat → Nat → Option Nat}
theorem q_M_products {f : Nat → Nat} {n E d dp : Nat} {sub : mst → mst} (hM : hs_M R) (hv : ∀ k, (tq f n k).1 = 3 → (tq f n k).2.2.2 < 128) (hd : 3 ≤ d) (hs : cM J R f n E d hm_M_takePart sub dp) (hl : hLn sub) : cM J R f n E (d + 1) hm_M_products (m_prod (tq f n) sub) dp := by
  intro I x h hC hx
  refine hn_F_of _ hk_M_products rfl (Nat.le_of_ble_eq_true rfl) ?_
  obtain ⟨Z, hZ⟩ : ∃ Z, Z = m_prod (tq f n) sub x := ⟨_, rfl⟩
  rw [← hZ]
  obtain ⟨P, hP⟩ : ∃ P : Option Value → hnD → Prop, P = (fun r D' => r = none ∧ hs_mq I J R f n E Z D') := ⟨_, rfl⟩
  rw [← hP]
  have ex : ∀ (y : mst) (I1 : Nat → Nat → Int32), hs_mg I I1 → hs_Rm I1 J f n E (rdx f n y) → hs_Cm I1 y.2.2 → ¬ (y.1 = 0 ∧ lu_rk (lu_op (tq f n y.2.1)) = 4) → Z = y → hn_B (d + 1) hm_M_products P 5 [.ref 188, .int (nI dp)] [] (I1, J, R) := by
    intro y I1 g k c hc hz
    have hn : ¬ ((rdx f n y).1 = 0 ∧ p_isS (tq f n (rdx f n y).2) 42) := fun z => hc ⟨rdx_1.mp z.1, op_42.mpr (by rw [← rdx_2 (f := f) (n := n) (x := y)]; exact z.2)⟩
    have hq := q_M_hasSign (c := 42) hM hv k (by omega)
    rw [if_neg hn] at hq
    refine b_aload_n rfl rfl ?_
    refine b_bipush rfl ?_
    refine b_callV rfl rfl hk_M_hasSign rfl rfl rfl (by first | rfl | assumption) rfl (Nat.le_of_ble_eq_true rfl) (hq) (by omega) (fun r_8 D_8 q_8 => ?_)
    obtain ⟨⟨b, rfl, hb⟩, I2, rfl, g2, k2⟩ := q_8
    refine b_if_eq rfl (fun c_11 => ?_) (fun c_11 => ?_)
    · exact b_return_ rfl trivial ((by rw [hP, hz]; exact ⟨rfl, I2, rfl, hs_mg_t g (hs_mg_f g2), k2, hs_Cm_f c g2⟩))
    · rcases hb with ⟨hb, _⟩ | ⟨_, hb⟩ <;> first | exact absurd hb hn | exact absurd hb c_11
  have lp : ∀ (m : Nat) (y : mst) (I1 : Nat → Nat → Int32), hs_mg I I1 → hs_Rm I1 J f n E (rdx f n y) → hs_Cm I1 y.2.2 → y.2.2.length ≤ y.2.1 → (y.1 = 0 → E < y.2.1 + m) → Z = lpq (tq f n) sub 4 m y → hn_B (d + 1) hm_M_products P 5 [.ref 188, .int (nI dp)] [] (I1, J, R) := by
    intro m
    induction m with
    | zero =>
      intro y I1 g k c hy hE hz
      exact ex y I1 g k c (fun z => by have h1 := hE z.1; have h2 := k.2.2.2.2.1; rw [rdx_2] at h2; omega) hz
    | succ m ih =>
      intro y I1 g k c hy hE hz
      have hu : lpq (tq f n) sub 4 (m + 1) y = if y.1 = 0 ∧ lu_rk (lu_op (tq f n y.2.1)) = 4 then lpq (tq f n) sub 4 m (e_m (lu_op (tq f n y.2.1)) (sub (0, y.2.1 + 1, y.2.2))) else y := rfl
      rw [hu] at hz
      by_cases hc : y.1 = 0 ∧ lu_rk (lu_op (tq f n y.2.1)) = 4
      · rw [if_pos hc, op_v.1 (op_42.mp hc.2)] at hz
        have hp : (rdx f n y).1 = 0 ∧ p_isS (tq f n (rdx f n y).2) 42 := ⟨rdx_1.mpr hc.1, by rw [rdx_2]; exact op_42.mp hc.2⟩
        have hq := q_M_hasSign (c := 42) hM hv k (by omega)
        rw [if_pos hp] at hq
        have hln : (sub (0, y.2.1 + 1, y.2.2)).2.2.length + (y.2.1 + 1) ≤ (sub (0, y.2.1 + 1, y.2.2)).2.1 + y.2.2.length ∧ y.2.1 + 1 ≤ (sub (0, y.2.1 + 1, y.2.2)).2.1 := hl (0, y.2.1 + 1, y.2.2)
        have hE := hE hc.1
        refine b_aload_n rfl rfl ?_
        refine b_bipush rfl ?_
        refine b_callV rfl rfl hk_M_hasSign rfl rfl rfl (by first | rfl | assumption) rfl (Nat.le_of_ble_eq_true rfl) (hq) (by omega) (fun r_8 D_8 q_8 => ?_)
        obtain ⟨⟨b, rfl, hb⟩, I2, rfl, g2, k2⟩ := q_8
        rw [rdx_2] at k2
        refine b_if_eq rfl (fun c_11 => ?_) (fun c_11 => ?_)
        · rcases hb with ⟨_, hb⟩ | ⟨hb, _⟩ <;> first | exact absurd hp hb | (rw [hb] at c_11; exact absurd c_11 (by decide))
        · refine b_aload_n rfl rfl ?_
          refine b_iload_n rfl rfl ?_
          refine b_callV rfl rfl hk_M_takePart rfl rfl rfl (by first | rfl | assumption) rfl (Nat.le_of_ble_eq_true rfl) (hs I2 (0, y.2.1 + 1, y.2.2) k2 (hs_Cm_f c g2) (by show y.2.2.length ≤ y.2.1 + 1; omega)) (by omega) (fun r_16 D_16 q_16 => ?_)
          obtain ⟨rfl, I3, rfl, g3, k3, c3⟩ := q_16
          have e3 := k3.2.2.2.2.1
          rw [rdx_2] at e3
          have hE1 := k3.2.1.1
          refine b_aload_n rfl rfl ?_
          refine b_bipush rfl ?_
          refine b_iconst rfl ?_
          refine b_callV rfl rfl hk_M_emit rfl rfl rfl (by first | rfl | assumption) rfl (Nat.le_of_ble_eq_true rfl) (q_M_emit (o := 6) (a := 0) (v := 10011) hM k3 c3 (by omega) (Or.inr (Or.inr (Or.inr (Or.inr (Or.inr (Or.inl ⟨rfl, rfl⟩))))))) (by omega) (fun r_23 D_23 q_23 => ?_)
          obtain ⟨rfl, I4, rfl, g4, k4, c4⟩ := q_23
          refine b_goto rfl ?_
          exact ih _ I4 (hs_mg_t g (hs_mg_t (hs_mg_f g2) (hs_mg_t g3 g4))) k4 c4 (by show (sub (0, y.2.1 + 1, y.2.2)).2.2.length + 1 ≤ (sub (0, y.2.1 + 1, y.2.2)).2.1; omega) (fun z => by show E < (sub (0, y.2.1 + 1, y.2.2)).2.1 + m; omega) hz
      · rw [if_neg hc] at hz
        exact ex y I1 g k c hc hz
  have hln := hl x
  refine b_aload_n rfl rfl ?_
  refine b_iload_n rfl rfl ?_
  refine b_callV rfl rfl hk_M_takePart rfl rfl rfl (by first | rfl | assumption) rfl (Nat.le_of_ble_eq_true rfl) (hs I x h hC hx) (by omega) (fun r_2 D_2 q_2 => ?_)
  obtain ⟨rfl, I3, rfl, g3, k3, c3⟩ := q_2
  have hE1 := k3.2.1.1
  exact lp 1001 _ I3 g3 k3 c3 (by omega) (fun _ => by omega) hZ
theorem q_M_sums {f : Nat → Nat} {n E d dp : Nat} {sub : mst → mst} (hM : hs_M R) (hv : ∀ k, (tq f n k).1 = 3 → (tq f n k).2.2.2 < 128) (hd : 3 ≤ d) (hs : cM J R f n E d hm_M_products (m_prod (tq f n) sub) dp) (hl : hLn (m_prod (tq f n) sub)) : cM J R f n E (d + 1) hm_M_sums (m_sums (tq f n) sub) dp := by
  intro I x h hC hx
  refine hn_F_of _ hk_M_sums rfl (Nat.le_of_ble_eq_true rfl) ?_
  obtain ⟨su, hsu⟩ : ∃ su, su = m_prod (tq f n) sub := ⟨_, rfl⟩
  obtain ⟨Z, hZ⟩ : ∃ Z, Z = m_sums (tq f n) sub x := ⟨_, rfl⟩
  rw [← hZ]
  have hZ : Z = lpq (tq f n) (m_prod (tq f n) sub) 3 1001 (m_prod (tq f n) sub x) := hZ
  rw [← hsu] at hs hl hZ
  obtain ⟨P, hP⟩ : ∃ P : Option Value → hnD → Prop, P = (fun r D' => r = none ∧ hs_mq I J R f n E Z D') := ⟨_, rfl⟩
  rw [← hP]
  have ex : ∀ (y : mst) (I1 : Nat → Nat → Int32), hs_mg I I1 → hs_Rm I1 J f n E (rdx f n y) → hs_Cm I1 y.2.2 → ¬ (y.1 = 0 ∧ lu_rk (lu_op (tq f n y.2.1)) = 3) → Z = y → hn_B (d + 1) hm_M_sums P 5 [.ref 188, .int (nI dp), .null] [] (I1, J, R) := by
    intro y I1 g k c hc hz
    have n1 : ¬ ((rdx f n y).1 = 0 ∧ p_isS (tq f n (rdx f n y).2) 43) := fun z => hc ⟨rdx_1.mp z.1, op_43.mpr (by rw [← rdx_2 (f := f) (n := n) (x := y)]; exact Or.inl z.2)⟩
    have n2 : ¬ ((rdx f n y).1 = 0 ∧ p_isS (tq f n (rdx f n y).2) 45) := fun z => hc ⟨rdx_1.mp z.1, op_43.mpr (by rw [← rdx_2 (f := f) (n := n) (x := y)]; exact Or.inr z.2)⟩
    have q1 := q_M_isSign (c := 43) hM hv k (by omega)
    have q2 := q_M_isSign (c := 45) hM hv k (by omega)
    refine b_aload_n rfl rfl ?_
    refine b_bipush rfl ?_
    refine b_callV rfl rfl hk_M_isSign rfl rfl rfl (by first | rfl | assumption) rfl (Nat.le_of_ble_eq_true rfl) (q1) (by omega) (fun r_8 D_8 q_8 => ?_)
    obtain ⟨⟨b, rfl, hb⟩, rfl⟩ := q_8
    refine b_if_ne rfl (fun c_11 => ?_) (fun c_11 => ?_)
    · rcases hb with ⟨hb, _⟩ | ⟨_, hb⟩ <;> first | exact absurd hb n1 | exact absurd hb c_11
    · refine b_aload_n rfl rfl ?_
      refine b_bipush rfl ?_
      refine b_callV rfl rfl hk_M_isSign rfl rfl rfl (by first | rfl | assumption) rfl (Nat.le_of_ble_eq_true rfl) (q2) (by omega) (fun r_17 D_17 q_17 => ?_)
      obtain ⟨⟨b2, rfl, hb2⟩, rfl⟩ := q_17
      refine b_if_eq rfl (fun c_20 => ?_) (fun c_20 => ?_)
      · exact b_return_ rfl trivial ((by rw [hP, hz]; exact ⟨rfl, I1, rfl, g, k, c⟩))
      · rcases hb2 with ⟨hb2, _⟩ | ⟨_, hb2⟩ <;> first | exact absurd hb2 n2 | exact absurd hb2 c_20
  have lp : ∀ (m : Nat) (y : mst) (I1 : Nat → Nat → Int32), hs_mg I I1 → hs_Rm I1 J f n E (rdx f n y) → hs_Cm I1 y.2.2 → y.2.2.length ≤ y.2.1 → (y.1 = 0 → E < y.2.1 + m) → Z = lpq (tq f n) su 3 m y → hn_B (d + 1) hm_M_sums P 5 [.ref 188, .int (nI dp), .null] [] (I1, J, R) := by
    intro m
    induction m with
    | zero =>
      intro y I1 g k c hy hE hz
      exact ex y I1 g k c (fun z => by have h1 := hE z.1; have h2 := k.2.2.2.2.1; rw [rdx_2] at h2; omega) hz
    | succ m ih =>
      intro y I1 g k c hy hE hz
      have hu : lpq (tq f n) su 3 (m + 1) y = if y.1 = 0 ∧ lu_rk (lu_op (tq f n y.2.1)) = 3 then lpq (tq f n) su 3 m (e_m (lu_op (tq f n y.2.1)) (su (0, y.2.1 + 1, y.2.2))) else y := rfl
      rw [hu] at hz
      by_cases hc : y.1 = 0 ∧ lu_rk (lu_op (tq f n y.2.1)) = 3
      · rw [if_pos hc] at hz
        have hln : (su (0, y.2.1 + 1, y.2.2)).2.2.length + (y.2.1 + 1) ≤ (su (0, y.2.1 + 1, y.2.2)).2.1 + y.2.2.length ∧ y.2.1 + 1 ≤ (su (0, y.2.1 + 1, y.2.2)).2.1 := hl (0, y.2.1 + 1, y.2.2)
        have hE := hE hc.1
        have h7 := k.2.2.1
        have r1 : (rdx f n y).1 = 0 := rdx_1.mpr hc.1
        have on := mp_on (R := R) k r1 (by rw [rdx_2]; exact fun z => by rw [lu_op_0 z] at hc; exact absurd hc.2 (by decide))
        rw [rdx_2] at on h7
        obtain ⟨I2, hI2⟩ : ∃ z, z = hn_u I1 188 7 (nI (y.2.1 + 1)) := ⟨_, rfl⟩
        rw [← hI2] at on
        obtain ⟨I2', e2, g2, k2⟩ := on
        cases e2
        have S41 : ∀ (v : Int32) (l2 : Int32), v = lu_op (tq f n y.2.1) → ((v = 10009 ∧ ¬ l2 = 0) ∨ (v = 10010 ∧ l2 = 0)) → hn_B (d + 1) hm_M_sums P 40 [.ref 188, .int (nI dp), .int l2] [] (I2, J, R) := by
          intro v l2 hvv hl2
          rw [← hvv] at hz
          refine b_aload_n rfl rfl ?_
          refine b_iload_n rfl rfl ?_
          refine b_callV rfl rfl hk_M_products rfl rfl rfl (by first | rfl | assumption) rfl (Nat.le_of_ble_eq_true rfl) (hs I2 (0, y.2.1 + 1, y.2.2) k2 (hs_Cm_f c g2) (by show y.2.2.length ≤ y.2.1 + 1; omega)) (by omega) (fun r_42 D_42 q_42 => ?_)
          obtain ⟨rfl, I3, rfl, g3, k3, c3⟩ := q_42
          have e3 := k3.2.2.2.2.1
          rw [rdx_2] at e3
          have hE1 := k3.2.1.1
          refine b_aload_n rfl rfl ?_
          refine b_iload_n rfl rfl ?_
          refine b_if_eq rfl (fun c_47 => ?_) (fun c_47 => ?_)
          · refine b_iconst rfl ?_
            refine b_iconst rfl ?_
            refine b_callV rfl rfl hk_M_emit rfl rfl rfl (by first | rfl | assumption) rfl (Nat.le_of_ble_eq_true rfl) ((show hn_F 0 hm_M_emit _ _ _ from q_M_emit (v := v) hM k3 c3 (by omega) (by rcases hl2 with ⟨rfl, hl2⟩ | ⟨rfl, hl2⟩ <;> first | exact absurd c_47 hl2 | exact absurd hl2 c_47 | exact Or.inr (Or.inr (Or.inr (by unfold mc_bin; decide)))))) (by omega) (fun r_56 D_56 q_56 => ?_)
            obtain ⟨rfl, I4, rfl, g4, k4, c4⟩ := q_56
            refine b_goto rfl ?_
            exact b_lp (ih _ I4 (hs_mg_t g (hs_mg_t (hs_mg_f g2) (hs_mg_t g3 g4))) k4 c4 (by show (su (0, y.2.1 + 1, y.2.2)).2.2.length + 1 ≤ (su (0, y.2.1 + 1, y.2.2)).2.1; omega) (fun z => by show E < (su (0, y.2.1 + 1, y.2.2)).2.1 + m; omega) hz) (le_e (le_e (le_n le_0))) rfl rfl
          · refine b_iconst rfl ?_
            refine b_goto rfl ?_
            refine b_iconst rfl ?_
            refine b_callV rfl rfl hk_M_emit rfl rfl rfl (by first | rfl | assumption) rfl (Nat.le_of_ble_eq_true rfl) ((show hn_F 0 hm_M_emit _ _ _ from q_M_emit (v := v) hM k3 c3 (by omega) (by rcases hl2 with ⟨rfl, hl2⟩ | ⟨rfl, hl2⟩ <;> first | exact absurd c_47 hl2 | exact absurd hl2 c_47 | exact Or.inr (Or.inr (Or.inr (by unfold mc_bin; decide)))))) (by omega) (fun r_56 D_56 q_56 => ?_)
            obtain ⟨rfl, I4, rfl, g4, k4, c4⟩ := q_56
            refine b_goto rfl ?_
            exact b_lp (ih _ I4 (hs_mg_t g (hs_mg_t (hs_mg_f g2) (hs_mg_t g3 g4))) k4 c4 (by show (su (0, y.2.1 + 1, y.2.2)).2.2.length + 1 ≤ (su (0, y.2.1 + 1, y.2.2)).2.1; omega) (fun z => by show E < (su (0, y.2.1 + 1, y.2.2)).2.1 + m; omega) hz) (le_e (le_e (le_n le_0))) rfl rfl
        have q1 := q_M_isSign (c := 43) hM hv k (by omega)
        have q2 := q_M_isSign (c := 45) hM hv k (by omega)
        have e1 : (rdx f n y).2 = y.2.1 := rdx_2
        by_cases hA : p_isS (tq f n y.2.1) 43
        · have p1 : (rdx f n y).1 = 0 ∧ p_isS (tq f n (rdx f n y).2) 43 := ⟨r1, by rw [e1]; exact hA⟩
          refine b_aload_n rfl rfl ?_
          refine b_bipush rfl ?_
          refine b_callV rfl rfl hk_M_isSign rfl rfl rfl (by first | rfl | assumption) rfl (Nat.le_of_ble_eq_true rfl) (q1) (by omega) (fun r_8 D_8 q_8 => ?_)
          obtain ⟨⟨b, rfl, hb⟩, rfl⟩ := q_8
          refine b_if_ne rfl (fun c_11 => ?_) (fun c_11 => ?_)
          · refine b_aload_n rfl rfl ?_
            refine b_bipush rfl ?_
            refine b_callV rfl rfl hk_M_isSign rfl rfl rfl (by first | rfl | assumption) rfl (Nat.le_of_ble_eq_true rfl) (q1) (by omega) (fun r_26 D_26 q_26 => ?_)
            obtain ⟨⟨b3, rfl, hb3⟩, rfl⟩ := q_26
            have hb1 : b3 = 1 := (by rcases hb3 with ⟨_, z⟩ | ⟨z, _⟩; (exact z); (exact absurd p1 z))
            subst hb1
            refine b_istore_n rfl (Nat.le_of_ble_eq_true rfl) ?_
            refine b_aload_n rfl rfl ?_
            refine b_dup rfl rfl ?_
            refine b_getI rfl (by first | rfl | assumption) rfl ?_
            rw [h7]
            refine b_iconst rfl ?_
            refine b_iadd rfl ?_
            rw [← nI_succ]
            refine b_putI rfl (by first | rfl | assumption) rfl rfl ⟨rfl, rfl⟩ ?_
            rw [← hI2]; exact S41 _ 1 rfl (Or.inl ⟨op_v.2.1 hA, by decide⟩)
          · rcases hb with ⟨_, hb⟩ | ⟨hb, _⟩ <;> first | exact absurd p1 hb | exact absurd (hb.symm.trans (Classical.not_not.mp c_11)) (by decide) | (rw [hb] at c_11; exact absurd c_11 (by decide))
        · have hB : p_isS (tq f n y.2.1) 45 := (op_43.mp hc.2).resolve_left hA
          have p1 : ¬ ((rdx f n y).1 = 0 ∧ p_isS (tq f n (rdx f n y).2) 43) := fun z => hA (by rw [← e1]; exact z.2)
          have p2 : (rdx f n y).1 = 0 ∧ p_isS (tq f n (rdx f n y).2) 45 := ⟨r1, by rw [e1]; exact hB⟩
          refine b_aload_n rfl rfl ?_
          refine b_bipush rfl ?_
          refine b_callV rfl rfl hk_M_isSign rfl rfl rfl (by first | rfl | assumption) rfl (Nat.le_of_ble_eq_true rfl) (q1) (by omega) (fun r_8 D_8 q_8 => ?_)
          obtain ⟨⟨b, rfl, hb⟩, rfl⟩ := q_8
          refine b_if_ne rfl (fun c_11 => ?_) (fun c_11 => ?_)
          · rcases hb with ⟨hb, _⟩ | ⟨_, hb⟩ <;> first | exact absurd hb p1 | exact absurd hb c_11
          · refine b_aload_n rfl rfl ?_
            refine b_bipush rfl ?_
            refine b_callV rfl rfl hk_M_isSign rfl rfl rfl (by first | rfl | assumption) rfl (Nat.le_of_ble_eq_true rfl) (q2) (by omega) (fun r_17 D_17 q_17 => ?_)
            obtain ⟨⟨b2, rfl, hb2⟩, rfl⟩ := q_17
            refine b_if_eq rfl (fun c_20 => ?_) (fun c_20 => ?_)
            · rcases hb2 with ⟨_, hb2⟩ | ⟨hb2, _⟩ <;> first | exact absurd p2 hb2 | (rw [hb2] at c_20; exact absurd c_20 (by decide))
            · refine b_aload_n rfl rfl ?_
              refine b_bipush rfl ?_
              refine b_callV rfl rfl hk_M_isSign rfl rfl rfl (by first | rfl | assumption) rfl (Nat.le_of_ble_eq_true rfl) (q1) (by omega) (fun r_26 D_26 q_26 => ?_)
              obtain ⟨⟨b3, rfl, hb3⟩, rfl⟩ := q_26
              have hb1 : b3 = 0 := (by rcases hb3 with ⟨z, _⟩ | ⟨_, z⟩; (exact absurd z p1); (exact z))
              subst hb1
              refine b_istore_n rfl (Nat.le_of_ble_eq_true rfl) ?_
              refine b_aload_n rfl rfl ?_
              refine b_dup rfl rfl ?_
              refine b_getI rfl (by first | rfl | assumption) rfl ?_
              rw [h7]
              refine b_iconst rfl ?_
              refine b_iadd rfl ?_
              rw [← nI_succ]
              refine b_putI rfl (by first | rfl | assumption) rfl rfl ⟨rfl, rfl⟩ ?_
              rw [← hI2]; exact S41 _ 0 rfl (Or.inr ⟨op_v.2.2.1 hB, rfl⟩)
      · rw [if_neg hc] at hz
        exact ex y I1 g k c hc hz
  have hln := hl x
  refine b_aload_n rfl rfl ?_
  refine b_iload_n rfl rfl ?_
  refine b_callV rfl rfl hk_M_products rfl rfl rfl (by first | rfl | assumption) rfl (Nat.le_of_ble_eq_true rfl) (hs I x h hC hx) (by omega) (fun r_2 D_2 q_2 => ?_)
  obtain ⟨rfl, I3, rfl, g3, k3, c3⟩ := q_2
  have hE1 := k3.2.1.1
  exact lp 1001 _ I3 g3 k3 c3 (by omega) (fun _ => by omega) hZ
theorem q_M_formula {f : Nat → Nat} {n E d dp : Nat} {sub : mst → mst} (hM : hs_M R) (hW : hs_Wm J) (hv : ∀ k, (tq f n k).1 = 3 → (tq f n k).2.2.2 < 128) (hd : 3 ≤ d) (hs : cM J R f n E d hm_M_test (m_test (tq f n) sub) dp) (hl : hLn (m_test (tq f n) sub)) : cM J R f n E (d + 1) hm_M_formula (m_form (tq f n) sub) dp := by
  intro I x h hC hx
  refine hn_F_of _ hk_M_formula rfl (Nat.le_of_ble_eq_true rfl) ?_
  obtain ⟨su, hsu⟩ : ∃ su, su = m_test (tq f n) sub := ⟨_, rfl⟩
  obtain ⟨Z, hZ⟩ : ∃ Z, Z = m_form (tq f n) sub x := ⟨_, rfl⟩
  rw [← hZ]
  have hZ : Z = lpq (tq f n) (m_test (tq f n) sub) 1 1001 (m_test (tq f n) sub x) := hZ
  rw [← hsu] at hs hl hZ
  obtain ⟨P, hP⟩ : ∃ P : Option Value → hnD → Prop, P = (fun r D' => r = none ∧ hs_mq I J R f n E Z D') := ⟨_, rfl⟩
  rw [← hP]
  have ex : ∀ (y : mst) (I1 : Nat → Nat → Int32), hs_mg I I1 → hs_Rm I1 J f n E (rdx f n y) → hs_Cm I1 y.2.2 → ¬ (y.1 = 0 ∧ lu_rk (lu_op (tq f n y.2.1)) = 1) → Z = y → hn_B (d + 1) hm_M_formula P 5 [.ref 188, .int (nI dp), .null] [] (I1, J, R) := by
    intro y I1 g k c hc hz
    have n1 : ¬ ((rdx f n y).1 = 0 ∧ wx (tq f n (rdx f n y).2) = 18 + 2) := fun z => hc ⟨rdx_1.mp z.1, op_20.mpr (by rw [← rdx_2 (f := f) (n := n) (x := y)]; exact Or.inl z.2)⟩
    have n2 : ¬ ((rdx f n y).1 = 0 ∧ wx (tq f n (rdx f n y).2) = 19 + 2) := fun z => hc ⟨rdx_1.mp z.1, op_20.mpr (by rw [← rdx_2 (f := f) (n := n) (x := y)]; exact Or.inr z.2)⟩
    have q1 := q_M_isWord (w := 18) hM hW k (by omega) rfl
    have q2 := q_M_isWord (w := 19) hM hW k (by omega) rfl
    refine b_aload_n rfl rfl ?_
    refine b_bipush rfl ?_
    refine b_callV rfl rfl hk_M_isWord rfl rfl rfl (by first | rfl | assumption) rfl (Nat.le_of_ble_eq_true rfl) (q1) (by omega) (fun r_8 D_8 q_8 => ?_)
    obtain ⟨⟨b, rfl, hb⟩, rfl⟩ := q_8
    refine b_if_ne rfl (fun c_11 => ?_) (fun c_11 => ?_)
    · rcases hb with ⟨hb, _⟩ | ⟨_, hb⟩ <;> first | exact absurd hb n1 | exact absurd hb c_11
    · refine b_aload_n rfl rfl ?_
      refine b_bipush rfl ?_
      refine b_callV rfl rfl hk_M_isWord rfl rfl rfl (by first | rfl | assumption) rfl (Nat.le_of_ble_eq_true rfl) (q2) (by omega) (fun r_17 D_17 q_17 => ?_)
      obtain ⟨⟨b2, rfl, hb2⟩, rfl⟩ := q_17
      refine b_if_eq rfl (fun c_20 => ?_) (fun c_20 => ?_)
      · exact b_return_ rfl trivial ((by rw [hP, hz]; exact ⟨rfl, I1, rfl, g, k, c⟩))
      · rcases hb2 with ⟨hb2, _⟩ | ⟨_, hb2⟩ <;> first | exact absurd hb2 n2 | exact absurd hb2 c_20
  have lp : ∀ (m : Nat) (y : mst) (I1 : Nat → Nat → Int32), hs_mg I I1 → hs_Rm I1 J f n E (rdx f n y) → hs_Cm I1 y.2.2 → y.2.2.length ≤ y.2.1 → (y.1 = 0 → E < y.2.1 + m) → Z = lpq (tq f n) su 1 m y → hn_B (d + 1) hm_M_formula P 5 [.ref 188, .int (nI dp), .null] [] (I1, J, R) := by
    intro m
    induction m with
    | zero =>
      intro y I1 g k c hy hE hz
      exact ex y I1 g k c (fun z => by have h1 := hE z.1; have h2 := k.2.2.2.2.1; rw [rdx_2] at h2; omega) hz
    | succ m ih =>
      intro y I1 g k c hy hE hz
      have hu : lpq (tq f n) su 1 (m + 1) y = if y.1 = 0 ∧ lu_rk (lu_op (tq f n y.2.1)) = 1 then lpq (tq f n) su 1 m (e_m (lu_op (tq f n y.2.1)) (su (0, y.2.1 + 1, y.2.2))) else y := rfl
      rw [hu] at hz
      by_cases hc : y.1 = 0 ∧ lu_rk (lu_op (tq f n y.2.1)) = 1
      · rw [if_pos hc] at hz
        have hln : (su (0, y.2.1 + 1, y.2.2)).2.2.length + (y.2.1 + 1) ≤ (su (0, y.2.1 + 1, y.2.2)).2.1 + y.2.2.length ∧ y.2.1 + 1 ≤ (su (0, y.2.1 + 1, y.2.2)).2.1 := hl (0, y.2.1 + 1, y.2.2)
        have hE := hE hc.1
        have h7 := k.2.2.1
        have r1 : (rdx f n y).1 = 0 := rdx_1.mpr hc.1
        have on := mp_on (R := R) k r1 (by rw [rdx_2]; exact fun z => by rw [lu_op_0 z] at hc; exact absurd hc.2 (by decide))
        rw [rdx_2] at on h7
        obtain ⟨I2, hI2⟩ : ∃ z, z = hn_u I1 188 7 (nI (y.2.1 + 1)) := ⟨_, rfl⟩
        rw [← hI2] at on
        obtain ⟨I2', e2, g2, k2⟩ := on
        cases e2
        have S41 : ∀ (v : Int32) (l2 : Int32), v = lu_op (tq f n y.2.1) → ((v = 10005 ∧ ¬ l2 = 0) ∨ (v = 10006 ∧ l2 = 0)) → hn_B (d + 1) hm_M_formula P 40 [.ref 188, .int (nI dp), .int l2] [] (I2, J, R) := by
          intro v l2 hvv hl2
          rw [← hvv] at hz
          refine b_aload_n rfl rfl ?_
          refine b_iload_n rfl rfl ?_
          refine b_callV rfl rfl hk_M_test rfl rfl rfl (by first | rfl | assumption) rfl (Nat.le_of_ble_eq_true rfl) (hs I2 (0, y.2.1 + 1, y.2.2) k2 (hs_Cm_f c g2) (by show y.2.2.length ≤ y.2.1 + 1; omega)) (by omega) (fun r_42 D_42 q_42 => ?_)
          obtain ⟨rfl, I3, rfl, g3, k3, c3⟩ := q_42
          have e3 := k3.2.2.2.2.1
          rw [rdx_2] at e3
          have hE1 := k3.2.1.1
          refine b_aload_n rfl rfl ?_
          refine b_iload_n rfl rfl ?_
          refine b_if_eq rfl (fun c_47 => ?_) (fun c_47 => ?_)
          · refine b_bipush rfl ?_
            refine b_iconst rfl ?_
            refine b_callV rfl rfl hk_M_emit rfl rfl rfl (by first | rfl | assumption) rfl (Nat.le_of_ble_eq_true rfl) ((show hn_F 0 hm_M_emit _ _ _ from q_M_emit (v := v) hM k3 c3 (by omega) (by rcases hl2 with ⟨rfl, hl2⟩ | ⟨rfl, hl2⟩ <;> first | exact absurd c_47 hl2 | exact absurd hl2 c_47 | exact Or.inr (Or.inr (Or.inr (by unfold mc_bin; decide)))))) (by omega) (fun r_58 D_58 q_58 => ?_)
            obtain ⟨rfl, I4, rfl, g4, k4, c4⟩ := q_58
            refine b_goto rfl ?_
            exact b_lp (ih _ I4 (hs_mg_t g (hs_mg_t (hs_mg_f g2) (hs_mg_t g3 g4))) k4 c4 (by show (su (0, y.2.1 + 1, y.2.2)).2.2.length + 1 ≤ (su (0, y.2.1 + 1, y.2.2)).2.1; omega) (fun z => by show E < (su (0, y.2.1 + 1, y.2.2)).2.1 + m; omega) hz) (le_e (le_e (le_n le_0))) rfl rfl
          · refine b_bipush rfl ?_
            refine b_goto rfl ?_
            refine b_iconst rfl ?_
            refine b_callV rfl rfl hk_M_emit rfl rfl rfl (by first | rfl | assumption) rfl (Nat.le_of_ble_eq_true rfl) ((show hn_F 0 hm_M_emit _ _ _ from q_M_emit (v := v) hM k3 c3 (by omega) (by rcases hl2 with ⟨rfl, hl2⟩ | ⟨rfl, hl2⟩ <;> first | exact absurd c_47 hl2 | exact absurd hl2 c_47 | exact Or.inr (Or.inr (Or.inr (by unfold mc_bin; decide)))))) (by omega) (fun r_58 D_58 q_58 => ?_)
            obtain ⟨rfl, I4, rfl, g4, k4, c4⟩ := q_58
            refine b_goto rfl ?_
            exact b_lp (ih _ I4 (hs_mg_t g (hs_mg_t (hs_mg_f g2) (hs_mg_t g3 g4))) k4 c4 (by show (su (0, y.2.1 + 1, y.2.2)).2.2.length + 1 ≤ (su (0, y.2.1 + 1, y.2.2)).2.1; omega) (fun z => by show E < (su (0, y.2.1 + 1, y.2.2)).2.1 + m; omega) hz) (le_e (le_e (le_n le_0))) rfl rfl
        have q1 := q_M_isWord (w := 18) hM hW k (by omega) rfl
        have q2 := q_M_isWord (w := 19) hM hW k (by omega) rfl
        have e1 : (rdx f n y).2 = y.2.1 := rdx_2
        by_cases hA : wx (tq f n y.2.1) = 18 + 2
        · have p1 : (rdx f n y).1 = 0 ∧ wx (tq f n (rdx f n y).2) = 18 + 2 := ⟨r1, by rw [e1]; exact hA⟩
          refine b_aload_n rfl rfl ?_
          refine b_bipush rfl ?_
          refine b_callV rfl rfl hk_M_isWord rfl rfl rfl (by first | rfl | assumption) rfl (Nat.le_of_ble_eq_true rfl) (q1) (by omega) (fun r_8 D_8 q_8 => ?_)
          obtain ⟨⟨b, rfl, hb⟩, rfl⟩ := q_8
          refine b_if_ne rfl (fun c_11 => ?_) (fun c_11 => ?_)
          · refine b_aload_n rfl rfl ?_
            refine b_bipush rfl ?_
            refine b_callV rfl rfl hk_M_isWord rfl rfl rfl (by first | rfl | assumption) rfl (Nat.le_of_ble_eq_true rfl) (q1) (by omega) (fun r_26 D_26 q_26 => ?_)
            obtain ⟨⟨b3, rfl, hb3⟩, rfl⟩ := q_26
            have hb1 : b3 = 1 := (by rcases hb3 with ⟨_, z⟩ | ⟨z, _⟩; (exact z); (exact absurd p1 z))
            subst hb1
            refine b_istore_n rfl (Nat.le_of_ble_eq_true rfl) ?_
            refine b_aload_n rfl rfl ?_
            refine b_dup rfl rfl ?_
            refine b_getI rfl (by first | rfl | assumption) rfl ?_
            rw [h7]
            refine b_iconst rfl ?_
            refine b_iadd rfl ?_
            rw [← nI_succ]
            refine b_putI rfl (by first | rfl | assumption) rfl rfl ⟨rfl, rfl⟩ ?_
            rw [← hI2]; exact S41 _ 1 rfl (Or.inl ⟨op_v.2.2.2.2.2.1 hA, by decide⟩)
          · rcases hb with ⟨_, hb⟩ | ⟨hb, _⟩ <;> first | exact absurd p1 hb | exact absurd (hb.symm.trans (Classical.not_not.mp c_11)) (by decide) | (rw [hb] at c_11; exact absurd c_11 (by decide))
        · have hB : wx (tq f n y.2.1) = 19 + 2 := (op_20.mp hc.2).resolve_left hA
          have p1 : ¬ ((rdx f n y).1 = 0 ∧ wx (tq f n (rdx f n y).2) = 18 + 2) := fun z => hA (by rw [← e1]; exact z.2)
          have p2 : (rdx f n y).1 = 0 ∧ wx (tq f n (rdx f n y).2) = 19 + 2 := ⟨r1, by rw [e1]; exact hB⟩
          refine b_aload_n rfl rfl ?_
          refine b_bipush rfl ?_
          refine b_callV rfl rfl hk_M_isWord rfl rfl rfl (by first | rfl | assumption) rfl (Nat.le_of_ble_eq_true rfl) (q1) (by omega) (fun r_8 D_8 q_8 => ?_)
          obtain ⟨⟨b, rfl, hb⟩, rfl⟩ := q_8
          refine b_if_ne rfl (fun c_11 => ?_) (fun c_11 => ?_)
          · rcases hb with ⟨hb, _⟩ | ⟨_, hb⟩ <;> first | exact absurd hb p1 | exact absurd hb c_11
          · refine b_aload_n rfl rfl ?_
            refine b_bipush rfl ?_
            refine b_callV rfl rfl hk_M_isWord rfl rfl rfl (by first | rfl | assumption) rfl (Nat.le_of_ble_eq_true rfl) (q2) (by omega) (fun r_17 D_17 q_17 => ?_)
            obtain ⟨⟨b2, rfl, hb2⟩, rfl⟩ := q_17
            refine b_if_eq rfl (fun c_20 => ?_) (fun c_20 => ?_)
            · rcases hb2 with ⟨_, hb2⟩ | ⟨hb2, _⟩ <;> first | exact absurd p2 hb2 | (rw [hb2] at c_20; exact absurd c_20 (by decide))
            · refine b_aload_n rfl rfl ?_
              refine b_bipush rfl ?_
              refine b_callV rfl rfl hk_M_isWord rfl rfl rfl (by first | rfl | assumption) rfl (Nat.le_of_ble_eq_true rfl) (q1) (by omega) (fun r_26 D_26 q_26 => ?_)
              obtain ⟨⟨b3, rfl, hb3⟩, rfl⟩ := q_26
              have hb1 : b3 = 0 := (by rcases hb3 with ⟨z, _⟩ | ⟨_, z⟩; (exact absurd z p1); (exact z))
              subst hb1
              refine b_istore_n rfl (Nat.le_of_ble_eq_true rfl) ?_
              refine b_aload_n rfl rfl ?_
              refine b_dup rfl rfl ?_
              refine b_getI rfl (by first | rfl | assumption) rfl ?_
              rw [h7]
              refine b_iconst rfl ?_
              refine b_iadd rfl ?_
              rw [← nI_succ]
              refine b_putI rfl (by first | rfl | assumption) rfl rfl ⟨rfl, rfl⟩ ?_
              rw [← hI2]; exact S41 _ 0 rfl (Or.inr ⟨op_v.2.2.2.2.2.2 hB, rfl⟩)
      · rw [if_neg hc] at hz
        exact ex y I1 g k c hc hz
  have hln := hl x
  refine b_aload_n rfl rfl ?_
  refine b_iload_n rfl rfl ?_
  refine b_callV rfl rfl hk_M_test rfl rfl rfl (by first | rfl | assumption) rfl (Nat.le_of_ble_eq_true rfl) (hs I x h hC hx) (by omega) (fun r_2 D_2 q_2 => ?_)
  obtain ⟨rfl, I3, rfl, g3, k3, c3⟩ := q_2
  have hE1 := k3.2.1.1
  exact lp 1001 _ I3 g3 k3 c3 (by omega) (fun _ => by omega) hZ
end HNmloops
