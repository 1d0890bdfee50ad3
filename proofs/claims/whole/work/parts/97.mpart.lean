section HNmpart
variable {I I' : Nat → Nat → Int32} {J J' : Nat → Nat → Int64} {R R' : Nat → Nat → Option Nat}
theorem q_M_test {f : Nat → Nat} {n E d dp : Nat} {sub : mst → mst} (hM : hs_M R) (hv : ∀ k, (tq f n k).1 = 3 → (tq f n k).2.2.2 < 128) (hd : 3 ≤ d) (hs : cM J R f n E d hm_M_sums (m_sums (tq f n) sub) dp) (hl : hLn (m_sums (tq f n) sub)) : cM J R f n E (d + 1) hm_M_test (m_test (tq f n) sub) dp := by
  intro I x h hC hx
  refine hn_F_of _ hk_M_test rfl (Nat.le_of_ble_eq_true rfl) ?_
  obtain ⟨su, hsu⟩ : ∃ su, su = m_sums (tq f n) sub := ⟨_, rfl⟩
  obtain ⟨Z, hZ⟩ : ∃ Z, Z = m_test (tq f n) sub x := ⟨_, rfl⟩
  rw [← hZ]
  have hZ : Z = lpq (tq f n) (m_sums (tq f n) sub) 2 1 (m_sums (tq f n) sub x) := hZ
  rw [← hsu] at hs hl hZ
  obtain ⟨y, hy⟩ : ∃ y, y = su x := ⟨_, rfl⟩
  have hln := hl x
  rw [← hy] at hZ hln
  have hu : lpq (tq f n) su 2 1 y = if y.1 = 0 ∧ lu_rk (lu_op (tq f n y.2.1)) = 2 then e_m (lu_op (tq f n y.2.1)) (su (0, y.2.1 + 1, y.2.2)) else y := rfl
  rw [hu] at hZ
  have hs0 := hs I x h hC hx
  rw [← hy] at hs0
  have r2 : (rdx f n y).2 = y.2.1 := rdx_2
  by_cases hc : y.1 = 0 ∧ lu_rk (lu_op (tq f n y.2.1)) = 2
  · rw [if_pos hc] at hZ
    have r1 : (rdx f n y).1 = 0 := rdx_1.mpr hc.1
    have hln1 : (su (0, y.2.1 + 1, y.2.2)).2.2.length + (y.2.1 + 1) ≤ (su (0, y.2.1 + 1, y.2.2)).2.1 + y.2.2.length ∧ y.2.1 + 1 ≤ (su (0, y.2.1 + 1, y.2.2)).2.1 := hl (0, y.2.1 + 1, y.2.2)
    obtain ⟨P, hP⟩ : ∃ P : Option Value → hnD → Prop, P = (fun r D' => r = none ∧ hs_mq I J R f n E Z D') := ⟨_, rfl⟩
    rw [← hP]
    have S30 : ∀ (v l2 : Int32) (I2 : Nat → Nat → Int32), v = lu_op (tq f n y.2.1) → ((v = 10007 ∧ ¬ l2 = 0) ∨ (v = 10008 ∧ l2 = 0)) → hs_mg I I2 → hs_Rm I2 J f n E (0, (rdx f n y).2 + 1) → hs_Cm I2 y.2.2 → hn_B (d + 1) hm_M_test P 30 [.ref 188, .int (nI dp), .int l2] [] (I2, J, R) := by
      intro v l2 I2 hvv hl2 g2 k2 c2
      rw [← hvv] at hZ
      rw [r2] at k2
      refine b_aload_n rfl rfl ?_
      refine b_iload_n rfl rfl ?_
      refine b_callV rfl rfl hk_M_sums rfl rfl rfl (by first | rfl | assumption) rfl (Nat.le_of_ble_eq_true rfl) (hs I2 (0, y.2.1 + 1, y.2.2) k2 c2 (by show y.2.2.length ≤ y.2.1 + 1; omega)) (by omega) (fun r_32 D_32 q_32 => ?_)
      obtain ⟨rfl, I3, rfl, g3, k3, c3⟩ := q_32
      have e3 := k3.2.2.2.2.1
      rw [rdx_2] at e3
      have hE1 := k3.2.1.1
      refine b_aload_n rfl rfl ?_
      refine b_iload_n rfl rfl ?_
      refine b_if_eq rfl (fun c_37 => ?_) (fun c_37 => ?_)
      · refine b_bipush rfl ?_
        refine b_iconst rfl ?_
        refine b_callV rfl rfl hk_M_emit rfl rfl rfl (by first | rfl | assumption) rfl (Nat.le_of_ble_eq_true rfl) ((show hn_F 0 hm_M_emit _ _ _ from q_M_emit (v := v) hM k3 c3 (by omega) (by rcases hl2 with ⟨rfl, hl2⟩ | ⟨rfl, hl2⟩ <;> first | exact absurd c_37 hl2 | exact absurd hl2 c_37 | exact Or.inr (Or.inr (Or.inr (by unfold mc_bin; decide)))))) (by omega) (fun r_48 D_48 q_48 => ?_)
        obtain ⟨rfl, I4, rfl, g4, k4, c4⟩ := q_48
        exact b_return_ rfl trivial ((by rw [hP, hZ]; exact ⟨rfl, I4, rfl, hs_mg_t g2 (hs_mg_t g3 g4), k4, c4⟩))
      · refine b_bipush rfl ?_
        refine b_goto rfl ?_
        refine b_iconst rfl ?_
        refine b_callV rfl rfl hk_M_emit rfl rfl rfl (by first | rfl | assumption) rfl (Nat.le_of_ble_eq_true rfl) ((show hn_F 0 hm_M_emit _ _ _ from q_M_emit (v := v) hM k3 c3 (by omega) (by rcases hl2 with ⟨rfl, hl2⟩ | ⟨rfl, hl2⟩ <;> first | exact absurd c_37 hl2 | exact absurd hl2 c_37 | exact Or.inr (Or.inr (Or.inr (by unfold mc_bin; decide)))))) (by omega) (fun r_48 D_48 q_48 => ?_)
        obtain ⟨rfl, I4, rfl, g4, k4, c4⟩ := q_48
        exact b_return_ rfl trivial ((by rw [hP, hZ]; exact ⟨rfl, I4, rfl, hs_mg_t g2 (hs_mg_t g3 g4), k4, c4⟩))
    by_cases hA : p_isS (tq f n y.2.1) 60
    · have p1 : (rdx f n y).1 = 0 ∧ p_isS (tq f n (rdx f n y).2) 60 := ⟨r1, by rw [r2]; exact hA⟩
      refine b_aload_n rfl rfl ?_
      refine b_iload_n rfl rfl ?_
      refine b_callV rfl rfl hk_M_sums rfl rfl rfl (by first | rfl | assumption) rfl (Nat.le_of_ble_eq_true rfl) (hs0) (by omega) (fun r_2 D_2 q_2 => ?_)
      obtain ⟨rfl, I1, rfl, g1, k1, c1⟩ := q_2
      have q1 := q_M_isSign (c := 60) hM hv k1 (by omega)
      have q2 := q_M_hasSign (c := 60) hM hv k1 (by omega)
      rw [if_pos p1] at q2
      refine b_aload_n rfl rfl ?_
      refine b_bipush rfl ?_
      refine b_callV rfl rfl hk_M_isSign rfl rfl rfl (by first | rfl | assumption) rfl (Nat.le_of_ble_eq_true rfl) (q1) (by omega) (fun r_8 D_8 q_8 => ?_)
      obtain ⟨⟨b, rfl, hb⟩, rfl⟩ := q_8
      have hb1 : b = 1 := (by rcases hb with ⟨_, z⟩ | ⟨z, _⟩; (exact z); (exact absurd p1 z))
      subst hb1
      refine b_istore_n rfl (Nat.le_of_ble_eq_true rfl) ?_
      refine b_aload_n rfl rfl ?_
      refine b_bipush rfl ?_
      refine b_callV rfl rfl hk_M_hasSign rfl rfl rfl (by first | rfl | assumption) rfl (Nat.le_of_ble_eq_true rfl) (q2) (by omega) (fun r_15 D_15 q_15 => ?_)
      obtain ⟨⟨b2, rfl, hb2⟩, I2, rfl, g2, k2⟩ := q_15
      refine b_if_ne rfl (fun c_18 => ?_) (fun c_18 => ?_)
      · exact S30 _ 1 I2 rfl (Or.inl ⟨op_v.2.2.2.1 hA, by decide⟩) (hs_mg_t g1 (hs_mg_f g2)) k2 (hs_Cm_f c1 g2)
      · rcases hb2 with ⟨_, hb2⟩ | ⟨hb2, _⟩ <;> first | exact absurd p1 hb2 | (rw [hb2] at c_18; exact absurd c_18 (by decide))
    · have hB := (op_60.mp hc.2).resolve_left hA
      have p1 : ¬ ((rdx f n y).1 = 0 ∧ p_isS (tq f n (rdx f n y).2) 60) := fun z => hA (by rw [← r2]; exact z.2)
      have p2 : (rdx f n y).1 = 0 ∧ p_isS (tq f n (rdx f n y).2) 61 := ⟨r1, by rw [r2]; exact hB⟩
      refine b_aload_n rfl rfl ?_
      refine b_iload_n rfl rfl ?_
      refine b_callV rfl rfl hk_M_sums rfl rfl rfl (by first | rfl | assumption) rfl (Nat.le_of_ble_eq_true rfl) (hs0) (by omega) (fun r_2 D_2 q_2 => ?_)
      obtain ⟨rfl, I1, rfl, g1, k1, c1⟩ := q_2
      have q1 := q_M_isSign (c := 60) hM hv k1 (by omega)
      have q2 := q_M_hasSign (c := 60) hM hv k1 (by omega)
      rw [if_neg p1] at q2
      refine b_aload_n rfl rfl ?_
      refine b_bipush rfl ?_
      refine b_callV rfl rfl hk_M_isSign rfl rfl rfl (by first | rfl | assumption) rfl (Nat.le_of_ble_eq_true rfl) (q1) (by omega) (fun r_8 D_8 q_8 => ?_)
      obtain ⟨⟨b, rfl, hb⟩, rfl⟩ := q_8
      have hb1 : b = 0 := (by rcases hb with ⟨z, _⟩ | ⟨_, z⟩; (exact absurd z p1); (exact z))
      subst hb1
      refine b_istore_n rfl (Nat.le_of_ble_eq_true rfl) ?_
      refine b_aload_n rfl rfl ?_
      refine b_bipush rfl ?_
      refine b_callV rfl rfl hk_M_hasSign rfl rfl rfl (by first | rfl | assumption) rfl (Nat.le_of_ble_eq_true rfl) (q2) (by omega) (fun r_15 D_15 q_15 => ?_)
      obtain ⟨⟨b2, rfl, hb2⟩, I2, rfl, g2, k2⟩ := q_15
      have q3 := q_M_hasSign (c := 61) hM hv k2 (by omega)
      rw [if_pos p2] at q3
      refine b_if_ne rfl (fun c_18 => ?_) (fun c_18 => ?_)
      · rcases hb2 with ⟨hb2, _⟩ | ⟨_, hb2⟩ <;> first | exact absurd hb2 p1 | exact absurd hb2 c_18
      · refine b_aload_n rfl rfl ?_
        refine b_bipush rfl ?_
        refine b_callV rfl rfl hk_M_hasSign rfl rfl rfl (by first | rfl | assumption) rfl (Nat.le_of_ble_eq_true rfl) (q3) (by omega) (fun r_24 D_24 q_24 => ?_)
        obtain ⟨⟨b3, rfl, hb3⟩, I3, rfl, g3, k3⟩ := q_24
        refine b_if_eq rfl (fun c_27 => ?_) (fun c_27 => ?_)
        · rcases hb3 with ⟨_, hb3⟩ | ⟨hb3, _⟩ <;> first | exact absurd p2 hb3 | (rw [hb3] at c_27; exact absurd c_27 (by decide))
        · exact S30 _ 0 I3 rfl (Or.inr ⟨op_v.2.2.2.2.1 hB, rfl⟩) (hs_mg_t g1 (hs_mg_t (hs_mg_f g2) (hs_mg_f g3))) k3 (hs_Cm_f (hs_Cm_f c1 g2) g3)
  · rw [if_neg hc] at hZ
    have p1 : ¬ ((rdx f n y).1 = 0 ∧ p_isS (tq f n (rdx f n y).2) 60) := fun z => hc ⟨rdx_1.mp z.1, op_60.mpr (by rw [← r2]; exact Or.inl z.2)⟩
    have p2 : ¬ ((rdx f n y).1 = 0 ∧ p_isS (tq f n (rdx f n y).2) 61) := fun z => hc ⟨rdx_1.mp z.1, op_60.mpr (by rw [← r2]; exact Or.inr z.2)⟩
    refine b_aload_n rfl rfl ?_
    refine b_iload_n rfl rfl ?_
    refine b_callV rfl rfl hk_M_sums rfl rfl rfl (by first | rfl | assumption) rfl (Nat.le_of_ble_eq_true rfl) (hs0) (by omega) (fun r_2 D_2 q_2 => ?_)
    obtain ⟨rfl, I1, rfl, g1, k1, c1⟩ := q_2
    have q1 := q_M_isSign (c := 60) hM hv k1 (by omega)
    have q2 := q_M_hasSign (c := 60) hM hv k1 (by omega)
    rw [if_neg p1] at q2
    refine b_aload_n rfl rfl ?_
    refine b_bipush rfl ?_
    refine b_callV rfl rfl hk_M_isSign rfl rfl rfl (by first | rfl | assumption) rfl (Nat.le_of_ble_eq_true rfl) (q1) (by omega) (fun r_8 D_8 q_8 => ?_)
    obtain ⟨⟨b, rfl, hb⟩, rfl⟩ := q_8
    refine b_istore_n rfl (Nat.le_of_ble_eq_true rfl) ?_
    refine b_aload_n rfl rfl ?_
    refine b_bipush rfl ?_
    refine b_callV rfl rfl hk_M_hasSign rfl rfl rfl (by first | rfl | assumption) rfl (Nat.le_of_ble_eq_true rfl) (q2) (by omega) (fun r_15 D_15 q_15 => ?_)
    obtain ⟨⟨b2, rfl, hb2⟩, I2, rfl, g2, k2⟩ := q_15
    have q3 := q_M_hasSign (c := 61) hM hv k2 (by omega)
    rw [if_neg p2] at q3
    refine b_if_ne rfl (fun c_18 => ?_) (fun c_18 => ?_)
    · rcases hb2 with ⟨hb2, _⟩ | ⟨_, hb2⟩ <;> first | exact absurd hb2 p1 | exact absurd hb2 c_18
    · refine b_aload_n rfl rfl ?_
      refine b_bipush rfl ?_
      refine b_callV rfl rfl hk_M_hasSign rfl rfl rfl (by first | rfl | assumption) rfl (Nat.le_of_ble_eq_true rfl) (q3) (by omega) (fun r_24 D_24 q_24 => ?_)
      obtain ⟨⟨b3, rfl, hb3⟩, I3, rfl, g3, k3⟩ := q_24
      refine b_if_eq rfl (fun c_27 => ?_) (fun c_27 => ?_)
      · exact b_return_ rfl trivial ((by rw [hZ]; exact ⟨rfl, I3, rfl, hs_mg_t g1 (hs_mg_t (hs_mg_f g2) (hs_mg_f g3)), k3, hs_Cm_f (hs_Cm_f c1 g2) g3⟩))
      · rcases hb3 with ⟨hb3, _⟩ | ⟨_, hb3⟩ <;> first | exact absurd hb3 p2 | exact absurd hb3 c_27
/-! what stands for a part -/
theorem pt_cs {x : tk} (h4 : x.1 ≤ 4) (h9 : x.1 = 2 → x.2.2.2 < 10000) : (x.1 = 2 ∧ pt x = nI x.2.2.2) ∨ (p_isS x 40 ∧ pt x = 10012) ∨ (wx x = 19 ∧ pt x = 10004) ∨ (22 ≤ wx x ∧ pt x = nI (10000 + (wx x - 22))) ∨ (pt x = -1 ∧ ¬ x.1 = 2 ∧ ¬ p_isS x 40 ∧ ¬ wx x = 19 ∧ ¬ 22 ≤ wx x) := by
  by_cases h1 : x.1 = 2
  · exact Or.inl ⟨h1, if_pos h1⟩
  by_cases h2 : p_isS x 40
  · exact Or.inr (Or.inl ⟨h2, (if_neg h1).trans (if_pos h2)⟩)
  have key : ∀ w : Fin 26, (w.val = 19 → ¬ hn_wnum.getD w.val 0 < 10000 ∧ ¬ 10004 < hn_wnum.getD w.val 0 ∧ hn_wnum.getD w.val 0 = 10004) ∧ (22 ≤ w.val → ¬ hn_wnum.getD w.val 0 < 10000 ∧ ¬ 10004 < hn_wnum.getD w.val 0 ∧ hn_wnum.getD w.val 0 = nI (10000 + (w.val - 22))) ∧ (¬ w.val = 19 → ¬ 22 ≤ w.val → ¬ (¬ hn_wnum.getD w.val 0 < 10000 ∧ ¬ 10004 < hn_wnum.getD w.val 0)) := by decide +kernel
  obtain ⟨k1, k2, k3⟩ := key ⟨wx x, wx_lt x⟩
  have e : pt x = if ¬ hn_wnum.getD (wx x) 0 < 10000 ∧ ¬ 10004 < hn_wnum.getD (wx x) 0 then hn_wnum.getD (wx x) 0 else -1 := (if_neg h1).trans (if_neg h2)
  rw [e]
  by_cases h3 : wx x = 19
  · have k := k1 h3
    exact Or.inr (Or.inr (Or.inl ⟨h3, (if_pos ⟨k.1, k.2.1⟩).trans k.2.2⟩))
  by_cases h5 : 22 ≤ wx x
  · have k := k2 h5
    exact Or.inr (Or.inr (Or.inr (Or.inl ⟨h5, (if_pos ⟨k.1, k.2.1⟩).trans k.2.2⟩)))
  exact Or.inr (Or.inr (Or.inr (Or.inr ⟨if_neg (k3 h3 h5), h1, h2, h3, h5⟩)))
theorem pt_ne {x : tk} (h9 : x.1 = 2 → x.2.2.2 < 10000) (h : (x.1 = 2 ∧ pt x = nI x.2.2.2) ∨ (22 ≤ wx x ∧ pt x = nI (10000 + (wx x - 22)))) : ¬ pt x = -1 ∧ ¬ pt x = 10004 ∧ ¬ pt x = 10012 := by
  have ne : ∀ {a : Nat} {b : Int32}, a < 10004 → b.toInt = -1 ∨ 10004 ≤ b.toInt → ¬ nI a = b := fun {a b} ha hb z => by
    rw [← z, nI_toInt (by omega)] at hb
    omega
  have hw := wx_lt x
  rcases h with ⟨h1, e⟩ | ⟨h1, e⟩
  · have h9 := h9 h1
    rw [e]
    exact ⟨ne (by omega) (by decide), ne (by omega) (by decide), ne (by omega) (by decide)⟩
  · rw [e]
    exact ⟨ne (by omega) (by decide), ne (by omega) (by decide), ne (by omega) (by decide)⟩
theorem rdx_t {f : Nat → Nat} {n : Nat} {z : mst} : rdx f n (t_cl (tq f n) z) = p_s f n 41 (rdx f n z) := by
  unfold t_cl p_s
  by_cases h : z.1 = 0
  · rw [if_pos h, if_pos (rdx_1.mpr h), rdx_0 h]
    unfold p_u
    by_cases hc : p_isS (tq f n z.2.1) 41
    · rw [if_pos hc, if_neg (fun q => q hc)]; rfl
    · rw [if_neg hc, if_pos hc]; rfl
  · rw [if_neg h, if_neg (fun q => h (rdx_1.mp q))]
theorem t_cl_c {T : Nat → tk} {z : mst} : (t_cl T z).2.2 = z.2.2 := by
  unfold t_cl
  split
  · split <;> rfl
  · rfl
theorem q_part_pre {f : Nat → Nat} {n E d dp k : Nat} {P : Option Value → hnD → Prop} (hM : hs_M R) (hW : hs_Wm J) (hv : ∀ k, (tq f n k).1 = 3 → (tq f n k).2.2.2 < 128) (hd : 3 ≤ d) (h : hs_Rm I J f n E (0, k)) (hp : ¬ pt (tq f n k) = -1) (hS : hn_B d hm_M_takePart P 69 [.ref 188, .int (nI dp), .int (if (tq f n k).1 = 2 then 1 else 0), .int (wh f n (0, k) 20 4)] [] (I, J, R)) : hn_B d hm_M_takePart P 0 [.ref 188, .int (nI dp), .null, .null] [] (I, J, R) := by
  obtain ⟨m1, m4, m5, m6, m9, m10, m11, m12, m14, m15, m16, m17, m20, m21, m22, m23, m25, m27, m28, m29, m30, m31, m32⟩ := id hM
  obtain ⟨hn, ht, h7, h8, hk, hb⟩ := id h
  have hE := ht.1
  have h7 : I 188 7 = nI k := h7
  have h8 : I 188 8 = nI 0 := h8
  have hk : k ≤ E := hk
  have hc1 := tt_at ht hk
  have hl4 := (tq_le f n k).2.2
  have q1 := q_M_wordHere (fr := 20) (m := 4) hM hW h (by omega) rfl rfl
  have q2 := q_M_isSign (c := 40) hM hv h (by omega)
  have q3 := q_M_isWord (w := 17) hM hW h (by omega) rfl
  by_cases h2 : (tq f n k).1 = 2
  · rw [if_pos h2] at hS
    refine b_aload_n rfl rfl ?_
    refine b_getI rfl (by first | rfl | assumption) rfl ?_
    rw [h8]
    refine b_if_le rfl (fun c_4 => ?_) (fun c_4 => ?_)
    · refine b_aload_n rfl rfl ?_
      refine b_getR rfl (by first | rfl | assumption) rfl (by assumption) ?_
      refine b_aload_n rfl rfl ?_
      refine b_getI rfl (by first | rfl | assumption) rfl ?_
      rw [h7]
      refine b_iaload rfl (by first | rfl | assumption) (nI_toInt (n := k) (by omega)) (by omega) ?_
      rw [hc1.1]
      refine b_iconst rfl ?_
      refine b_icmp_ne rfl (fun c_18 => ?_) (fun c_18 => ?_)
      · exact absurd (show nI (tq f n k).1 = 2 by rw [h2]; rfl) c_18
      · refine b_iconst rfl ?_
        refine b_goto rfl ?_
        refine b_istore_n rfl (Nat.le_of_ble_eq_true rfl) ?_
        refine b_aload_n rfl rfl ?_
        refine b_bipush rfl ?_
        refine b_iconst rfl ?_
        refine b_callV rfl rfl hk_M_wordHere rfl rfl rfl (by first | rfl | assumption) rfl (Nat.le_of_ble_eq_true rfl) (q1) (by omega) (fun r_31 D_31 q_31 => ?_)
        obtain ⟨rfl, rfl⟩ := q_31
        refine b_istore_n rfl (Nat.le_of_ble_eq_true rfl) ?_
        refine b_iload_n rfl rfl ?_
        refine b_if_ge rfl (fun c_36 => ?_) (fun c_36 => ?_)
        · exact hS
        · refine b_iload_n rfl rfl ?_
          refine b_if_ne rfl (fun c_40 => ?_) (fun c_40 => ?_)
          · exact hS
          · exact absurd c_40 (by decide)
    · exact absurd (show nI 0 ≤ 0 by decide) c_4
  rw [if_neg h2] at hS
  have ns : ¬ nI (tq f n k).1 = 2 := fun z => h2 ((hi_nIe (k := 2) (by omega) (by omega)).mp z)
  by_cases h5 : 22 ≤ wx (tq f n k)
  · have hw := wx_lt (tq f n k)
    have w0 : ¬ wh f n (0, k) 20 4 < 0 := fun z => (wh_n (by omega)).mp z ⟨rfl, h5, by show wx (tq f n k) < 26; omega⟩
    refine b_aload_n rfl rfl ?_
    refine b_getI rfl (by first | rfl | assumption) rfl ?_
    rw [h8]
    refine b_if_le rfl (fun c_4 => ?_) (fun c_4 => ?_)
    · refine b_aload_n rfl rfl ?_
      refine b_getR rfl (by first | rfl | assumption) rfl (by assumption) ?_
      refine b_aload_n rfl rfl ?_
      refine b_getI rfl (by first | rfl | assumption) rfl ?_
      rw [h7]
      refine b_iaload rfl (by first | rfl | assumption) (nI_toInt (n := k) (by omega)) (by omega) ?_
      rw [hc1.1]
      refine b_iconst rfl ?_
      refine b_icmp_ne rfl (fun c_18 => ?_) (fun c_18 => ?_)
      · refine b_iconst rfl ?_
        refine b_istore_n rfl (Nat.le_of_ble_eq_true rfl) ?_
        refine b_aload_n rfl rfl ?_
        refine b_bipush rfl ?_
        refine b_iconst rfl ?_
        refine b_callV rfl rfl hk_M_wordHere rfl rfl rfl (by first | rfl | assumption) rfl (Nat.le_of_ble_eq_true rfl) (q1) (by omega) (fun r_31 D_31 q_31 => ?_)
        obtain ⟨rfl, rfl⟩ := q_31
        refine b_istore_n rfl (Nat.le_of_ble_eq_true rfl) ?_
        refine b_iload_n rfl rfl ?_
        refine b_if_ge rfl (fun c_36 => ?_) (fun c_36 => ?_)
        · exact hS
        · exact absurd (Int32.not_le.mp c_36) w0
      · exact absurd c_18 ns
    · exact absurd (show nI 0 ≤ 0 by decide) c_4
  have w0 : wh f n (0, k) 20 4 < 0 := (wh_n (by omega)).mpr (fun z => h5 z.2.1)
  by_cases h3 : p_isS (tq f n k) 40
  · have p2 : (0 : Nat) = 0 ∧ p_isS (tq f n k) 40 := ⟨rfl, h3⟩
    refine b_aload_n rfl rfl ?_
    refine b_getI rfl (by first | rfl | assumption) rfl ?_
    rw [h8]
    refine b_if_le rfl (fun c_4 => ?_) (fun c_4 => ?_)
    · refine b_aload_n rfl rfl ?_
      refine b_getR rfl (by first | rfl | assumption) rfl (by assumption) ?_
      refine b_aload_n rfl rfl ?_
      refine b_getI rfl (by first | rfl | assumption) rfl ?_
      rw [h7]
      refine b_iaload rfl (by first | rfl | assumption) (nI_toInt (n := k) (by omega)) (by omega) ?_
      rw [hc1.1]
      refine b_iconst rfl ?_
      refine b_icmp_ne rfl (fun c_18 => ?_) (fun c_18 => ?_)
      · refine b_iconst rfl ?_
        refine b_istore_n rfl (Nat.le_of_ble_eq_true rfl) ?_
        refine b_aload_n rfl rfl ?_
        refine b_bipush rfl ?_
        refine b_iconst rfl ?_
        refine b_callV rfl rfl hk_M_wordHere rfl rfl rfl (by first | rfl | assumption) rfl (Nat.le_of_ble_eq_true rfl) (q1) (by omega) (fun r_31 D_31 q_31 => ?_)
        obtain ⟨rfl, rfl⟩ := q_31
        refine b_istore_n rfl (Nat.le_of_ble_eq_true rfl) ?_
        refine b_iload_n rfl rfl ?_
        refine b_if_ge rfl (fun c_36 => ?_) (fun c_36 => ?_)
        · exact absurd w0 (Int32.not_lt.mpr c_36)
        · refine b_iload_n rfl rfl ?_
          refine b_if_ne rfl (fun c_40 => ?_) (fun c_40 => ?_)
          · exact absurd rfl c_40
          · refine b_aload_n rfl rfl ?_
            refine b_bipush rfl ?_
            refine b_callV rfl rfl hk_M_isSign rfl rfl rfl (by first | rfl | assumption) rfl (Nat.le_of_ble_eq_true rfl) (q2) (by omega) (fun r_46 D_46 q_46 => ?_)
            obtain ⟨⟨b, rfl, hb⟩, rfl⟩ := q_46
            refine b_if_ne rfl (fun c_49 => ?_) (fun c_49 => ?_)
            · exact hS
            · rcases hb with ⟨_, hb⟩ | ⟨hb, _⟩ <;> first | exact absurd p2 hb | (rw [hb] at c_49; exact absurd c_49 (by decide))
      · exact absurd c_18 ns
    · exact absurd (show nI 0 ≤ 0 by decide) c_4
  have h6 : wx (tq f n k) = 19 := by
    rcases pt_cs hl4 (tq_9 (f := f) (n := n) k).1 with z | z | z | z | z
    · exact absurd z.1 h2
    · exact absurd z.1 h3
    · exact z.1
    · exact absurd z.1 h5
    · exact absurd z.1 hp
  have p2 : ¬ ((0 : Nat) = 0 ∧ p_isS (tq f n k) 40) := fun z => h3 z.2
  have p3 : (0 : Nat) = 0 ∧ wx (tq f n k) = 17 + 2 := ⟨rfl, h6⟩
  refine b_aload_n rfl rfl ?_
  refine b_getI rfl (by first | rfl | assumption) rfl ?_
  rw [h8]
  refine b_if_le rfl (fun c_4 => ?_) (fun c_4 => ?_)
  · refine b_aload_n rfl rfl ?_
    refine b_getR rfl (by first | rfl | assumption) rfl (by assumption) ?_
    refine b_aload_n rfl rfl ?_
    refine b_getI rfl (by first | rfl | assumption) rfl ?_
    rw [h7]
    refine b_iaload rfl (by first | rfl | assumption) (nI_toInt (n := k) (by omega)) (by omega) ?_
    rw [hc1.1]
    refine b_iconst rfl ?_
    refine b_icmp_ne rfl (fun c_18 => ?_) (fun c_18 => ?_)
    · refine b_iconst rfl ?_
      refine b_istore_n rfl (Nat.le_of_ble_eq_true rfl) ?_
      refine b_aload_n rfl rfl ?_
      refine b_bipush rfl ?_
      refine b_iconst rfl ?_
      refine b_callV rfl rfl hk_M_wordHere rfl rfl rfl (by first | rfl | assumption) rfl (Nat.le_of_ble_eq_true rfl) (q1) (by omega) (fun r_31 D_31 q_31 => ?_)
      obtain ⟨rfl, rfl⟩ := q_31
      refine b_istore_n rfl (Nat.le_of_ble_eq_true rfl) ?_
      refine b_iload_n rfl rfl ?_
      refine b_if_ge rfl (fun c_36 => ?_) (fun c_36 => ?_)
      · exact absurd w0 (Int32.not_lt.mpr c_36)
      · refine b_iload_n rfl rfl ?_
        refine b_if_ne rfl (fun c_40 => ?_) (fun c_40 => ?_)
        · exact absurd rfl c_40
        · refine b_aload_n rfl rfl ?_
          refine b_bipush rfl ?_
          refine b_callV rfl rfl hk_M_isSign rfl rfl rfl (by first | rfl | assumption) rfl (Nat.le_of_ble_eq_true rfl) (q2) (by omega) (fun r_46 D_46 q_46 => ?_)
          obtain ⟨⟨b, rfl, hb⟩, rfl⟩ := q_46
          refine b_if_ne rfl (fun c_49 => ?_) (fun c_49 => ?_)
          · rcases hb with ⟨hb, _⟩ | ⟨_, hb⟩ <;> first | exact absurd hb p2 | exact absurd hb c_49
          · refine b_aload_n rfl rfl ?_
            refine b_bipush rfl ?_
            refine b_callV rfl rfl hk_M_isWord rfl rfl rfl (by first | rfl | assumption) rfl (Nat.le_of_ble_eq_true rfl) (q3) (by omega) (fun r_55 D_55 q_55 => ?_)
            obtain ⟨⟨b2, rfl, hb2⟩, rfl⟩ := q_55
            refine b_if_ne rfl (fun c_58 => ?_) (fun c_58 => ?_)
            · exact hS
            · rcases hb2 with ⟨_, hb2⟩ | ⟨hb2, _⟩ <;> first | exact absurd p3 hb2 | (rw [hb2] at c_58; exact absurd c_58 (by decide))
    · exact absurd c_18 ns
  · exact absurd (show nI 0 ≤ 0 by decide) c_4
theorem q_part_79 {f : Nat → Nat} {n E d dp : Nat} {P : Option Value → hnD → Prop} {v2 v3 : Value} {s : rd} (h : hs_Rm I J f n E s) (hz : ¬ s.1 = 0) (hP : P none (I, J, R)) : hn_B d hm_M_takePart P 79 [.ref 188, .int (nI dp), v2, v3] [] (I, J, R) := by
  refine b_aload_n rfl rfl ?_
  refine b_getI rfl (by first | rfl | assumption) rfl ?_
  rw [h.2.2.2.1]
  refine b_if_le rfl (fun c_83 => ?_) (fun c_83 => ?_)
  · exact absurd c_83 (nI_ps hz (by have := h.2.2.2.2.2; omega))
  · exact b_return_ rfl trivial (hP)
theorem q_part_none {f : Nat → Nat} {n E d dp k : Nat} {C : List Int32} {P : Option Value → hnD → Prop} (hM : hs_M R) (hW : hs_Wm J) (hv : ∀ k, (tq f n k).1 = 3 → (tq f n k).2.2.2 < 128) (hd : 3 ≤ d) (h : hs_Rm I J f n E (0, k)) (hp : pt (tq f n k) = -1) (hC : hs_Cm I C) (hP : ∀ I2, hs_mq I J R f n E (1, k, C) (I2, J, R) → P none (I2, J, R)) : hn_B d hm_M_takePart P 0 [.ref 188, .int (nI dp), .null, .null] [] (I, J, R) := by
  obtain ⟨m1, m4, m5, m6, m9, m10, m11, m12, m14, m15, m16, m17, m20, m21, m22, m23, m25, m27, m28, m29, m30, m31, m32⟩ := id hM
  obtain ⟨hn, ht, h7, h8, hk, hb⟩ := id h
  have hE := ht.1
  have h7 : I 188 7 = nI k := h7
  have h8 : I 188 8 = nI 0 := h8
  have hk : k ≤ E := hk
  have hc1 := tt_at ht hk
  have hl4 := (tq_le f n k).2.2
  have q1 := q_M_wordHere (fr := 20) (m := 4) hM hW h (by omega) rfl rfl
  have q2 := q_M_isSign (c := 40) hM hv h (by omega)
  have q3 := q_M_isWord (w := 17) hM hW h (by omega) rfl
  obtain ⟨h2, h3, h6, h5⟩ : ¬ (tq f n k).1 = 2 ∧ ¬ p_isS (tq f n k) 40 ∧ ¬ wx (tq f n k) = 19 ∧ ¬ 22 ≤ wx (tq f n k) := by
    have h9 := (tq_9 (f := f) (n := n) k).1
    rcases pt_cs hl4 h9 with z | z | z | z | z
    · exact absurd hp (pt_ne h9 (Or.inl z)).1
    · rw [z.2] at hp; exact absurd hp (by decide)
    · rw [z.2] at hp; exact absurd hp (by decide)
    · exact absurd hp (pt_ne h9 (Or.inr z)).1
    · exact z.2
  have ns : ¬ nI (tq f n k).1 = 2 := fun z => h2 ((hi_nIe (k := 2) (by omega) (by omega)).mp z)
  have w0 : wh f n (0, k) 20 4 < 0 := (wh_n (by omega)).mpr (fun z => h5 z.2.1)
  have p2 : ¬ ((0 : Nat) = 0 ∧ p_isS (tq f n k) 40) := fun z => h3 z.2
  have p3 : ¬ ((0 : Nat) = 0 ∧ wx (tq f n k) = 17 + 2) := fun z => h6 z.2
  refine b_aload_n rfl rfl ?_
  refine b_getI rfl (by first | rfl | assumption) rfl ?_
  rw [h8]
  refine b_if_le rfl (fun c_4 => ?_) (fun c_4 => ?_)
  · refine b_aload_n rfl rfl ?_
    refine b_getR rfl (by first | rfl | assumption) rfl (by assumption) ?_
    refine b_aload_n rfl rfl ?_
    refine b_getI rfl (by first | rfl | assumption) rfl ?_
    rw [h7]
    refine b_iaload rfl (by first | rfl | assumption) (nI_toInt (n := k) (by omega)) (by omega) ?_
    rw [hc1.1]
    refine b_iconst rfl ?_
    refine b_icmp_ne rfl (fun c_18 => ?_) (fun c_18 => ?_)
    · refine b_iconst rfl ?_
      refine b_istore_n rfl (Nat.le_of_ble_eq_true rfl) ?_
      refine b_aload_n rfl rfl ?_
      refine b_bipush rfl ?_
      refine b_iconst rfl ?_
      refine b_callV rfl rfl hk_M_wordHere rfl rfl rfl (by first | rfl | assumption) rfl (Nat.le_of_ble_eq_true rfl) (q1) (by omega) (fun r_31 D_31 q_31 => ?_)
      obtain ⟨rfl, rfl⟩ := q_31
      refine b_istore_n rfl (Nat.le_of_ble_eq_true rfl) ?_
      refine b_iload_n rfl rfl ?_
      refine b_if_ge rfl (fun c_36 => ?_) (fun c_36 => ?_)
      · exact absurd w0 (Int32.not_lt.mpr c_36)
      · refine b_iload_n rfl rfl ?_
        refine b_if_ne rfl (fun c_40 => ?_) (fun c_40 => ?_)
        · exact absurd rfl c_40
        · refine b_aload_n rfl rfl ?_
          refine b_bipush rfl ?_
          refine b_callV rfl rfl hk_M_isSign rfl rfl rfl (by first | rfl | assumption) rfl (Nat.le_of_ble_eq_true rfl) (q2) (by omega) (fun r_46 D_46 q_46 => ?_)
          obtain ⟨⟨b, rfl, hb⟩, rfl⟩ := q_46
          refine b_if_ne rfl (fun c_49 => ?_) (fun c_49 => ?_)
          · rcases hb with ⟨hb, _⟩ | ⟨_, hb⟩ <;> first | exact absurd hb p2 | exact absurd hb c_49
          · refine b_aload_n rfl rfl ?_
            refine b_bipush rfl ?_
            refine b_callV rfl rfl hk_M_isWord rfl rfl rfl (by first | rfl | assumption) rfl (Nat.le_of_ble_eq_true rfl) (q3) (by omega) (fun r_55 D_55 q_55 => ?_)
            obtain ⟨⟨b2, rfl, hb2⟩, rfl⟩ := q_55
            refine b_if_ne rfl (fun c_58 => ?_) (fun c_58 => ?_)
            · rcases hb2 with ⟨hb2, _⟩ | ⟨_, hb2⟩ <;> first | exact absurd hb2 p3 | exact absurd hb2 c_58
            · refine b_aload_n rfl rfl ?_
              refine b_iconst rfl ?_
              refine b_callV rfl rfl hk_M_wrong rfl rfl rfl (by first | rfl | assumption) rfl (Nat.le_of_ble_eq_true rfl) (q_M_wrong (c := 1) hM h (by omega)) (by omega) (fun r_63 D_63 q_63 => ?_)
              obtain ⟨rfl, I2, rfl, g2, k2⟩ := q_63
              rw [← rdx_f (C := C) (by omega)] at k2
              refine b_goto rfl ?_
              exact q_part_79 k2 (fun z => absurd (rdx_1.mp z) (show ¬ (1 : Nat) = 0 by omega)) (hP I2 ⟨I2, rfl, hs_mg_f g2, k2, hs_Cm_f hC g2⟩)
    · exact absurd c_18 ns
  · exact absurd (show nI 0 ≤ 0 by decide) c_4
theorem q_M_takePart {f : Nat → Nat} {n E : Nat} (hM : hs_M R) (hW : hs_Wm J) (hv : ∀ k, (tq f n k).1 = 3 → (tq f n k).2.2.2 < 128) : ∀ (L dp : Nat), dp + L = 5 → cM J R f n E (5 * L + 3) hm_M_takePart (m_part (tq f n) L) dp := by
  intro L
  induction L with
  | zero =>
    intro dp hdp I x h hC hx
    obtain rfl : dp = 5 := by omega
    refine hn_F_of _ hk_M_takePart rfl (Nat.le_of_ble_eq_true rfl) ?_
    by_cases h0 : x.1 = 0
    · obtain ⟨e, k, C⟩ := x
      obtain rfl : e = 0 := h0
      have h : hs_Rm I J f n E (0, k) := h
      have hu : m_part (tq f n) 0 (0, k, C) = if ¬ (0 : Nat) = 0 then (0, k, C) else if pt (tq f n k) = -1 then (1, k, C) else (5, k, C) := rfl
      rw [hu, if_neg (fun z => z rfl)]
      by_cases hp : pt (tq f n k) = -1
      · rw [if_pos hp]
        exact q_part_none hM hW hv (by omega) h hp hC (fun I2 hq => ⟨rfl, hq⟩)
      · rw [if_neg hp]
        refine q_part_pre (dp := 5) hM hW hv (by omega) h hp ?_
        refine b_iload_n rfl rfl ?_
        refine b_iconst rfl ?_
        refine b_icmp_ne rfl (fun c_71 => ?_) (fun c_71 => ?_)
        · exact absurd (show nI 5 = 5 by decide) c_71
        · refine b_aload_n rfl rfl ?_
          refine b_iconst rfl ?_
          refine b_callV rfl rfl hk_M_wrong rfl rfl rfl (by first | rfl | assumption) rfl (Nat.le_of_ble_eq_true rfl) (q_M_wrong (c := 5) hM h (by omega)) (by omega) (fun r_76 D_76 q_76 => ?_)
          obtain ⟨rfl, I2, rfl, g2, k2⟩ := q_76
          rw [← rdx_f (C := C) (by omega)] at k2
          exact q_part_79 k2 (fun z => absurd (rdx_1.mp z) (show ¬ (5 : Nat) = 0 by omega)) ⟨rfl, I2, rfl, hs_mg_f g2, k2, hs_Cm_f hC g2⟩
    · have e : m_part (tq f n) 0 x = x := if_pos h0
      rw [e]
      have hz : ¬ (rdx f n x).1 = 0 := fun z => h0 (rdx_1.mp z)
      refine b_aload_n rfl rfl ?_
      refine b_getI rfl (by first | rfl | assumption) rfl ?_
      rw [h.2.2.2.1]
      refine b_if_le rfl (fun c_4 => ?_) (fun c_4 => ?_)
      · exact absurd c_4 (nI_ps hz (by have := h.2.2.2.2.2; omega))
      · exact b_return_ rfl trivial (⟨rfl, I, rfl, hs_mg_r, h, hC⟩)
  | succ L ihL =>
    intro dp hdp I x h hC hx
    have ih := ihL (dp + 1) (by omega)
    have lp := hLn_part (T := tq f n) L
    have fo := q_M_formula hM hW hv (by omega) (q_M_test hM hv (by omega) (q_M_sums hM hv (by omega) (q_M_products hM hv (by omega) ih lp) (hLn_ch lp)) (hLn_ch (hLn_ch lp))) (hLn_ch (hLn_ch (hLn_ch lp)))
    refine hn_F_of _ hk_M_takePart rfl (Nat.le_of_ble_eq_true rfl) ?_
    by_cases h0 : x.1 = 0
    · obtain ⟨e, k, C⟩ := x
      obtain rfl : e = 0 := h0
      have h : hs_Rm I J f n E (0, k) := h
      have hC : hs_Cm I C := hC
      have hx : C.length ≤ k := hx
      have hu : m_part (tq f n) (L + 1) (0, k, C) = if ¬ (0 : Nat) = 0 then (0, k, C) else if pt (tq f n k) = -1 then (1, k, C) else if pt (tq f n k) = 10004 then e_m 10004 (m_part (tq f n) L (0, k + 1, C)) else if pt (tq f n k) = 10012 then t_cl (tq f n) (m_form (tq f n) (m_part (tq f n) L) (0, k + 1, C)) else (0, k + 1, pt (tq f n k) :: C) := rfl
      rw [hu, if_neg (fun z => z rfl)]
      by_cases hp : pt (tq f n k) = -1
      · rw [if_pos hp]
        exact q_part_none hM hW hv (by omega) h hp hC (fun I2 hq => ⟨rfl, hq⟩)
      rw [if_neg hp]
      refine q_part_pre hM hW hv (by omega) h hp ?_
      obtain ⟨m1, m4, m5, m6, m9, m10, m11, m12, m14, m15, m16, m17, m20, m21, m22, m23, m25, m27, m28, m29, m30, m31, m32⟩ := id hM
      obtain ⟨hn, ht, h7, h8, hk, hb⟩ := id h
      have hE := ht.1
      have h7 : I 188 7 = nI k := h7
      have h8 : I 188 8 = nI 0 := h8
      have hk : k ≤ E := hk
      have hc1 := tt_at ht hk
      have h9 := (tq_9 (f := f) (n := n) k).1
      have hl4 := (tq_le f n k).2.2
      have d5 : ¬ nI dp = 5 := fun z => by have := (hi_nIe (k := 5) (by omega) (by omega)).mp z; omega
      have qN := q_M_hasWord (w := 17) hM hW h (by omega) rfl
      have cs := pt_cs hl4 h9
      by_cases hN : wx (tq f n k) = 19
      · have pN : (0 : Nat) = 0 ∧ wx (tq f n k) = 17 + 2 := ⟨rfl, hN⟩
        rw [if_pos pN] at qN
        have e : pt (tq f n k) = 10004 := by
          rcases cs with z | z | z | z | z
          · have z := z.1; rw [show wx (tq f n k) = 0 from if_neg (by omega)] at hN; omega
          · rw [isS_w z.1] at hN; omega
          · exact z.2
          · omega
          · exact absurd hN z.2.2.2.1
        rw [if_pos e]
        have hln : (m_part (tq f n) L (0, k + 1, C)).2.2.length + (k + 1) ≤ (m_part (tq f n) L (0, k + 1, C)).2.1 + C.length ∧ k + 1 ≤ (m_part (tq f n) L (0, k + 1, C)).2.1 := lp (0, k + 1, C)
        refine b_iload_n rfl rfl ?_
        refine b_iconst rfl ?_
        refine b_icmp_ne rfl (fun c_71 => ?_) (fun c_71 => ?_)
        · refine b_aload_n rfl rfl ?_
          refine b_getI rfl (by first | rfl | assumption) rfl ?_
          rw [h8]
          refine b_if_le rfl (fun c_83 => ?_) (fun c_83 => ?_)
          · refine b_aload_n rfl rfl ?_
            refine b_bipush rfl ?_
            refine b_callV rfl rfl hk_M_hasWord rfl rfl rfl (by first | rfl | assumption) rfl (Nat.le_of_ble_eq_true rfl) (qN) (by omega) (fun r_90 D_90 q_90 => ?_)
            obtain ⟨⟨b, rfl, hb⟩, I2, rfl, g2, k2⟩ := q_90
            refine b_if_eq rfl (fun c_93 => ?_) (fun c_93 => ?_)
            · rcases hb with ⟨_, hb⟩ | ⟨hb, _⟩ <;> first | exact absurd pN hb | (rw [hb] at c_93; exact absurd c_93 (by decide))
            · refine b_aload_n rfl rfl ?_
              refine b_iload_n rfl rfl ?_
              refine b_iconst rfl ?_
              refine b_iadd rfl ?_
              rw [← nI_succ]
              refine b_callV rfl rfl hk_M_takePart rfl rfl rfl (by first | rfl | assumption) rfl (Nat.le_of_ble_eq_true rfl) (ih I2 (0, k + 1, C) k2 (hs_Cm_f hC g2) (by show C.length ≤ k + 1; omega)) (by omega) (fun r_100 D_100 q_100 => ?_)
              obtain ⟨rfl, I3, rfl, g3, k3, c3⟩ := q_100
              have e3 := k3.2.2.2.2.1
              rw [rdx_2] at e3
              refine b_aload_n rfl rfl ?_
              refine b_iconst rfl ?_
              refine b_iconst rfl ?_
              refine b_callV rfl rfl hk_M_emit rfl rfl rfl (by first | rfl | assumption) rfl (Nat.le_of_ble_eq_true rfl) (q_M_emit (o := 3) (a := 0) (v := 10004) hM k3 c3 (by omega) (Or.inr (Or.inr (Or.inl ⟨rfl, rfl⟩)))) (by omega) (fun r_106 D_106 q_106 => ?_)
              obtain ⟨rfl, I4, rfl, g4, k4, c4⟩ := q_106
              refine b_goto rfl ?_
              exact b_return_ rfl trivial (⟨rfl, I4, rfl, hs_mg_t (hs_mg_f g2) (hs_mg_t g3 g4), k4, c4⟩)
          · exact absurd (show nI 0 ≤ 0 by decide) c_83
        · exact absurd c_71 d5
      have pN : ¬ ((0 : Nat) = 0 ∧ wx (tq f n k) = 17 + 2) := fun z => hN z.2
      rw [if_neg pN] at qN
      have e4 : ¬ pt (tq f n k) = 10004 := by
        rcases cs with z | z | z | z | z
        · exact (pt_ne h9 (Or.inl z)).2.1
        · rw [z.2]; decide
        · exact absurd z.1 hN
        · exact (pt_ne h9 (Or.inr z)).2.1
        · exact absurd z.1 hp
      rw [if_neg e4]
      by_cases hO : p_isS (tq f n k) 40
      · have pO : (0 : Nat) = 0 ∧ p_isS (tq f n k) 40 := ⟨rfl, hO⟩
        have e : pt (tq f n k) = 10012 := by
          have hO1 := hO.1
          rcases cs with z | z | z | z | z
          · omega
          · exact z.2
          · exact absurd z.1 hN
          · rw [isS_w hO] at z; omega
          · exact absurd hO z.2.2.1
        rw [if_pos e]
        have hln : (m_form (tq f n) (m_part (tq f n) L) (0, k + 1, C)).2.2.length + (k + 1) ≤ (m_form (tq f n) (m_part (tq f n) L) (0, k + 1, C)).2.1 + C.length ∧ k + 1 ≤ (m_form (tq f n) (m_part (tq f n) L) (0, k + 1, C)).2.1 := hLn_form lp (0, k + 1, C)
        refine b_iload_n rfl rfl ?_
        refine b_iconst rfl ?_
        refine b_icmp_ne rfl (fun c_71 => ?_) (fun c_71 => ?_)
        · refine b_aload_n rfl rfl ?_
          refine b_getI rfl (by first | rfl | assumption) rfl ?_
          rw [h8]
          refine b_if_le rfl (fun c_83 => ?_) (fun c_83 => ?_)
          · refine b_aload_n rfl rfl ?_
            refine b_bipush rfl ?_
            refine b_callV rfl rfl hk_M_hasWord rfl rfl rfl (by first | rfl | assumption) rfl (Nat.le_of_ble_eq_true rfl) (qN) (by omega) (fun r_90 D_90 q_90 => ?_)
            obtain ⟨⟨b, rfl, hb⟩, I2, rfl, g2, k2⟩ := q_90
            refine b_if_eq rfl (fun c_93 => ?_) (fun c_93 => ?_)
            · have qO := q_M_hasSign (c := 40) hM hv k2 (by omega)
              rw [if_pos pO] at qO
              refine b_aload_n rfl rfl ?_
              refine b_bipush rfl ?_
              refine b_callV rfl rfl hk_M_hasSign rfl rfl rfl (by first | rfl | assumption) rfl (Nat.le_of_ble_eq_true rfl) (qO) (by omega) (fun r_115 D_115 q_115 => ?_)
              obtain ⟨⟨b2, rfl, hb2⟩, I3, rfl, g3, k3⟩ := q_115
              refine b_if_eq rfl (fun c_118 => ?_) (fun c_118 => ?_)
              · rcases hb2 with ⟨_, hb2⟩ | ⟨hb2, _⟩ <;> first | exact absurd pO hb2 | (rw [hb2] at c_118; exact absurd c_118 (by decide))
              · refine b_aload_n rfl rfl ?_
                refine b_iload_n rfl rfl ?_
                refine b_iconst rfl ?_
                refine b_iadd rfl ?_
                rw [← nI_succ]
                refine b_callV rfl rfl hk_M_formula rfl rfl rfl (by first | rfl | assumption) rfl (Nat.le_of_ble_eq_true rfl) (fo I3 (0, k + 1, C) k3 (hs_Cm_f (hs_Cm_f hC g2) g3) (by show C.length ≤ k + 1; omega)) (by omega) (fun r_125 D_125 q_125 => ?_)
                obtain ⟨rfl, I4, rfl, g4, k4, c4⟩ := q_125
                refine b_aload_n rfl rfl ?_
                refine b_bipush rfl ?_
                refine b_callV rfl rfl hk_M_takeSign rfl rfl rfl (by first | rfl | assumption) rfl (Nat.le_of_ble_eq_true rfl) (q_M_takeSign (c := 41) hM hv k4 (by omega)) (by omega) (fun r_131 D_131 q_131 => ?_)
                obtain ⟨rfl, I5, rfl, g5, k5⟩ := q_131
                rw [← rdx_t] at k5
                refine b_goto rfl ?_
                exact b_return_ rfl trivial (⟨rfl, I5, rfl, hs_mg_t (hs_mg_f g2) (hs_mg_t (hs_mg_f g3) (hs_mg_t g4 (hs_mg_f g5))), k5, by rw [t_cl_c]; exact hs_Cm_f c4 g5⟩)
            · rcases hb with ⟨hb, _⟩ | ⟨_, hb⟩ <;> first | exact absurd hb pN | exact absurd hb c_93
          · exact absurd (show nI 0 ≤ 0 by decide) c_83
        · exact absurd c_71 d5
      have pO : ¬ ((0 : Nat) = 0 ∧ p_isS (tq f n k) 40) := fun z => hO z.2
      have e12 : ¬ pt (tq f n k) = 10012 := by
        rcases cs with z | z | z | z | z
        · exact (pt_ne h9 (Or.inl z)).2.2
        · exact absurd z.1 hO
        · exact absurd z.1 hN
        · exact (pt_ne h9 (Or.inr z)).2.2
        · exact absurd z.1 hp
      rw [if_neg e12]
      have hx0 : ¬ (tq f n k).1 = 0 := fun z => hp (pt_0 z)
      have fin : ∀ (I4 : Nat → Nat → Int32), hs_mg I I4 → hs_Rm I4 J f n E (0, k) → hs_Cm I4 (pt (tq f n k) :: C) → hs_mq I J R f n E (0, k + 1, pt (tq f n k) :: C) (hn_u I4 188 7 (nI (k + 1)), J, R) := fun I4 g4 k4 c4 => by
        obtain ⟨I5, e5, g5, k5⟩ := mp_on (R := R) k4 rfl hx0
        exact ⟨I5, e5, hs_mg_t g4 (hs_mg_f g5), k5, hs_Cm_f c4 g5⟩
      by_cases h2 : (tq f n k).1 = 2
      · have ev := hc1.2.2.2 (Or.inl h2)
        have hv9 := h9 h2
        have ept : pt (tq f n k) = nI (tq f n k).2.2.2 := if_pos h2
        have lt : nI (tq f n k).2.2.2 < 10000 := (nI_lt_c (k := 10000) (by omega) (by omega)).mpr hv9
        rw [if_pos h2]
        refine b_iload_n rfl rfl ?_
        refine b_iconst rfl ?_
        refine b_icmp_ne rfl (fun c_71 => ?_) (fun c_71 => ?_)
        · refine b_aload_n rfl rfl ?_
          refine b_getI rfl (by first | rfl | assumption) rfl ?_
          rw [h8]
          refine b_if_le rfl (fun c_83 => ?_) (fun c_83 => ?_)
          · refine b_aload_n rfl rfl ?_
            refine b_bipush rfl ?_
            refine b_callV rfl rfl hk_M_hasWord rfl rfl rfl (by first | rfl | assumption) rfl (Nat.le_of_ble_eq_true rfl) (qN) (by omega) (fun r_90 D_90 q_90 => ?_)
            obtain ⟨⟨b, rfl, hb⟩, I2, rfl, g2, k2⟩ := q_90
            refine b_if_eq rfl (fun c_93 => ?_) (fun c_93 => ?_)
            · have qO := q_M_hasSign (c := 40) hM hv k2 (by omega)
              rw [if_neg pO] at qO
              refine b_aload_n rfl rfl ?_
              refine b_bipush rfl ?_
              refine b_callV rfl rfl hk_M_hasSign rfl rfl rfl (by first | rfl | assumption) rfl (Nat.le_of_ble_eq_true rfl) (qO) (by omega) (fun r_115 D_115 q_115 => ?_)
              obtain ⟨⟨b2, rfl, hb2⟩, I3, rfl, g3, k3⟩ := q_115
              refine b_if_eq rfl (fun c_118 => ?_) (fun c_118 => ?_)
              · refine b_aload_n rfl rfl ?_
                refine b_iload_n rfl rfl ?_
                refine b_if_eq rfl (fun c_139 => ?_) (fun c_139 => ?_)
                · exact absurd c_139 (by decide)
                · refine b_iconst rfl ?_
                  refine b_goto rfl ?_
                  refine b_iload_n rfl rfl ?_
                  refine b_if_eq rfl (fun c_148 => ?_) (fun c_148 => ?_)
                  · exact absurd c_148 (by decide)
                  · refine b_aload_n rfl rfl ?_
                    refine b_getR rfl (by first | rfl | assumption) rfl (by assumption) ?_
                    refine b_aload_n rfl rfl ?_
                    refine b_getI rfl (by first | rfl | assumption) rfl ?_
                    have k37 : I3 188 7 = nI k := k3.2.2.1
                    rw [k37]
                    refine b_laload rfl (by first | rfl | assumption) (by decide) (nI_toInt (n := k) (by omega)) (by omega) ?_
                    rw [ev]
                    refine b_l2i rfl ?_
                    rw [hl_int (nJ_toInt (by omega)) (by omega)]
                    refine b_goto rfl ?_
                    refine b_callV rfl rfl hk_M_emit rfl rfl rfl (by first | rfl | assumption) rfl (Nat.le_of_ble_eq_true rfl) (q_M_emit (x := (0, k, C)) (o := 1) (v := pt (tq f n k)) hM k3 (hs_Cm_f (hs_Cm_f hC g2) g3) (by show C.length < 1100; omega) (Or.inl ⟨rfl, ept.symm, by rw [ept]; exact lt⟩)) (by omega) (fun r_165 D_165 q_165 => ?_)
                    obtain ⟨rfl, I4, rfl, g4, k4, c4⟩ := q_165
                    refine b_aload_n rfl rfl ?_
                    refine b_dup rfl rfl ?_
                    refine b_getI rfl (by first | rfl | assumption) rfl ?_
                    have k47 : I4 188 7 = nI k := k4.2.2.1
                    rw [k47]
                    refine b_iconst rfl ?_
                    refine b_iadd rfl ?_
                    rw [← nI_succ]
                    refine b_putI rfl (by first | rfl | assumption) rfl rfl ⟨rfl, rfl⟩ ?_
                    exact b_return_ rfl trivial (⟨rfl, fin I4 (hs_mg_t (hs_mg_f g2) (hs_mg_t (hs_mg_f g3) g4)) k4 c4⟩)
              · rcases hb2 with ⟨hb2, _⟩ | ⟨_, hb2⟩ <;> first | exact absurd hb2 pO | exact absurd hb2 c_118
            · rcases hb with ⟨hb, _⟩ | ⟨_, hb⟩ <;> first | exact absurd hb pN | exact absurd hb c_93
          · exact absurd (show nI 0 ≤ 0 by decide) c_83
        · exact absurd c_71 d5
      have h5 : 22 ≤ wx (tq f n k) ∧ pt (tq f n k) = nI (10000 + (wx (tq f n k) - 22)) := by
        rcases cs with z | z | z | z | z
        · exact absurd z.1 h2
        · exact absurd z.1 hO
        · exact absurd z.1 hN
        · exact z
        · exact absurd z.1 hp
      have hw := wx_lt (tq f n k)
      have ew : wh f n (0, k) 20 4 = nI (wx (tq f n k) - 22) := by
        have e0 : wh f n (0, k) 20 4 = nI (wx (tq f n k) - 20 - 2) := if_pos ⟨rfl, by show 22 ≤ wx (tq f n k); exact h5.1, by show wx (tq f n k) < 26; exact hw⟩
        rw [e0, show wx (tq f n k) - 20 - 2 = wx (tq f n k) - 22 by omega]
      rw [if_neg h2]
      refine b_iload_n rfl rfl ?_
      refine b_iconst rfl ?_
      refine b_icmp_ne rfl (fun c_71 => ?_) (fun c_71 => ?_)
      · refine b_aload_n rfl rfl ?_
        refine b_getI rfl (by first | rfl | assumption) rfl ?_
        rw [h8]
        refine b_if_le rfl (fun c_83 => ?_) (fun c_83 => ?_)
        · refine b_aload_n rfl rfl ?_
          refine b_bipush rfl ?_
          refine b_callV rfl rfl hk_M_hasWord rfl rfl rfl (by first | rfl | assumption) rfl (Nat.le_of_ble_eq_true rfl) (qN) (by omega) (fun r_90 D_90 q_90 => ?_)
          obtain ⟨⟨b, rfl, hb⟩, I2, rfl, g2, k2⟩ := q_90
          refine b_if_eq rfl (fun c_93 => ?_) (fun c_93 => ?_)
          · have qO := q_M_hasSign (c := 40) hM hv k2 (by omega)
            rw [if_neg pO] at qO
            refine b_aload_n rfl rfl ?_
            refine b_bipush rfl ?_
            refine b_callV rfl rfl hk_M_hasSign rfl rfl rfl (by first | rfl | assumption) rfl (Nat.le_of_ble_eq_true rfl) (qO) (by omega) (fun r_115 D_115 q_115 => ?_)
            obtain ⟨⟨b2, rfl, hb2⟩, I3, rfl, g3, k3⟩ := q_115
            refine b_if_eq rfl (fun c_118 => ?_) (fun c_118 => ?_)
            · refine b_aload_n rfl rfl ?_
              refine b_iload_n rfl rfl ?_
              refine b_if_eq rfl (fun c_139 => ?_) (fun c_139 => ?_)
              · refine b_iconst rfl ?_
                refine b_iload_n rfl rfl ?_
                refine b_if_eq rfl (fun c_148 => ?_) (fun c_148 => ?_)
                · refine b_iload_n rfl rfl ?_
                  refine b_callV rfl rfl hk_M_emit rfl rfl rfl (by first | rfl | assumption) rfl (Nat.le_of_ble_eq_true rfl) (q_M_emit (x := (0, k, C)) (o := 2) (v := pt (tq f n k)) hM k3 (hs_Cm_f (hs_Cm_f hC g2) g3) (by show C.length < 1100; omega) (Or.inr (Or.inl ⟨wx (tq f n k) - 22, by omega, rfl, ew, h5.2⟩))) (by omega) (fun r_165 D_165 q_165 => ?_)
                  obtain ⟨rfl, I4, rfl, g4, k4, c4⟩ := q_165
                  refine b_aload_n rfl rfl ?_
                  refine b_dup rfl rfl ?_
                  refine b_getI rfl (by first | rfl | assumption) rfl ?_
                  have k47 : I4 188 7 = nI k := k4.2.2.1
                  rw [k47]
                  refine b_iconst rfl ?_
                  refine b_iadd rfl ?_
                  rw [← nI_succ]
                  refine b_putI rfl (by first | rfl | assumption) rfl rfl ⟨rfl, rfl⟩ ?_
                  exact b_return_ rfl trivial (⟨rfl, fin I4 (hs_mg_t (hs_mg_f g2) (hs_mg_t (hs_mg_f g3) g4)) k4 c4⟩)
                · exact absurd rfl c_148
              · exact absurd rfl c_139
            · rcases hb2 with ⟨hb2, _⟩ | ⟨_, hb2⟩ <;> first | exact absurd hb2 pO | exact absurd hb2 c_118
          · rcases hb with ⟨hb, _⟩ | ⟨_, hb⟩ <;> first | exact absurd hb pN | exact absurd hb c_93
        · exact absurd (show nI 0 ≤ 0 by decide) c_83
      · exact absurd c_71 d5
    · have e : m_part (tq f n) (L + 1) x = x := if_pos h0
      rw [e]
      have hz : ¬ (rdx f n x).1 = 0 := fun z => h0 (rdx_1.mp z)
      refine b_aload_n rfl rfl ?_
      refine b_getI rfl (by first | rfl | assumption) rfl ?_
      rw [h.2.2.2.1]
      refine b_if_le rfl (fun c_4 => ?_) (fun c_4 => ?_)
      · exact absurd c_4 (nI_ps hz (by have := h.2.2.2.2.2; omega))
      · exact b_return_ rfl trivial (⟨rfl, I, rfl, hs_mg_r, h, hC⟩)
theorem q_M_formula_0 {f : Nat → Nat} {n E : Nat} (hM : hs_M R) (hW : hs_Wm J) (hv : ∀ k, (tq f n k).1 = 3 → (tq f n k).2.2.2 < 128) : cM J R f n E 32 hm_M_formula (m_form (tq f n) (m_part (tq f n) 5)) 0 := by
  have ih := q_M_takePart (E := E) hM hW hv 5 0 rfl
  have lp := hLn_part (T := tq f n) 5
  exact q_M_formula hM hW hv (by omega) (q_M_test hM hv (by omega) (q_M_sums hM hv (by omega) (q_M_products hM hv (by omega) ih lp) (hLn_ch lp)) (hLn_ch (hLn_ch lp))) (hLn_ch (hLn_ch (hLn_ch lp)))
end HNmpart
