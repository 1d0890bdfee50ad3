section HNmnames
variable {I I' : Nat → Nat → Int32} {J J' : Nat → Nat → Int64} {R R' : Nat → Nat → Option Nat}
/-! names of the reference: one table for knots and persons -/
def hs_Jt (nj : Nat → Int64) (ofs : Nat → Int32) (m kn : Nat) (nm : Nat → Nat) (pn : Nat) (pm : Nat → Nat) : Prop := m = kn + pn ∧ (∀ j, j < m → (∃ i, i < kn ∧ nj j = nJ (cv (nm i)) ∧ ofs j = nI i) ∨ ∃ p, p < pn ∧ nj j = nJ (cv (pm p)) ∧ ofs j = nI (20 + p)) ∧ (∀ i, i < kn → ∃ j, j < m ∧ nj j = nJ (cv (nm i))) ∧ ∀ p, p < pn → ∃ j, j < m ∧ nj j = nJ (cv (pm p))
def hs_Jw (kn : Nat) (nm : Nat → Nat) (pn : Nat) (pm : Nat → Nat) : Prop := kn ≤ 8 ∧ pn ≤ 4 ∧ (∀ i, i < kn → nm i < 27 ^ 8) ∧ (∀ p, p < pn → pm p < 27 ^ 8) ∧ (∀ i j, i < kn → j < kn → nm i = nm j → i = j) ∧ (∀ i j, i < pn → j < pn → pm i = pm j → i = j) ∧ ∀ i p, i < kn → p < pn → ¬ nm i = pm p
def jo (nm : Nat → Nat) (kn : Nat) (pm : Nat → Nat) (pn v : Nat) : Int32 := match nfd nm v kn with
  | some i => nI i
  | none => match nfd pm v pn with
    | some p => nI (20 + p)
    | none => -1
theorem nfd_no {nm : Nat → Nat} {v : Nat} : ∀ {k : Nat}, nfd nm v k = none → ∀ i, i < k → ¬ nm i = v
  | 0, _, i, hi => absurd hi (Nat.not_lt_zero _)
  | k + 1, h, i, hi => by
    rw [nfd_s] at h
    rcases (show nfd nm v k = none ∨ ∃ i, nfd nm v k = some i by cases nfd nm v k with | none => exact Or.inl rfl | some i => exact Or.inr ⟨i, rfl⟩) with e | ⟨j, e⟩
    · rw [e] at h
      have h : (if nm k = v then some k else none) = none := h
      by_cases hk : nm k = v
      · rw [if_pos hk] at h; cases h
      · by_cases hik : i = k
        · rw [hik]; exact hk
        · exact nfd_no e i (by omega)
    · rw [e] at h; cases h
theorem nfd_or (nm : Nat → Nat) (v k : Nat) : nfd nm v k = none ∨ ∃ i, nfd nm v k = some i := by
  cases nfd nm v k with
  | none => exact Or.inl rfl
  | some i => exact Or.inr ⟨i, rfl⟩
theorem nfd_is {nm : Nat → Nat} {k i : Nat} (hi : i < k) (hd : ∀ a b, a < k → b < k → nm a = nm b → a = b) : nfd nm (nm i) k = some i := by
  rcases nfd_or nm (nm i) k with e | ⟨j, e⟩
  · exact absurd rfl (nfd_no e i hi)
  · obtain ⟨h1, h2⟩ := nfd_lt e
    rw [e, hd j i h1 hi h2]
theorem nfd_nn {nm : Nat → Nat} {v : Nat} : ∀ {k : Nat}, (∀ i, i < k → ¬ nm i = v) → nfd nm v k = none := by
  intro k h
  rcases nfd_or nm v k with e | ⟨j, e⟩
  · exact e
  · obtain ⟨h1, h2⟩ := nfd_lt e
    exact absurd h2 (h j h1)
/-- the name is not there: neither is it in the table -/
theorem jo_n {nj : Nat → Int64} {ofs : Nat → Int32} {m kn pn v : Nat} {nm pm : Nat → Nat} (hJ : hs_Jt nj ofs m kn nm pn pm) (h : ∀ j, j < m → ¬ nj j = nJ (cv v)) : jo nm kn pm pn v = -1 := by
  have h1 : nfd nm v kn = none := nfd_nn (fun i hi z => by
    obtain ⟨j, hj, hv⟩ := hJ.2.2.1 i hi
    exact h j hj (by rw [hv, z]))
  have h2 : nfd pm v pn = none := nfd_nn (fun i hi z => by
    obtain ⟨j, hj, hv⟩ := hJ.2.2.2 i hi
    exact h j hj (by rw [hv, z]))
  unfold jo
  rw [h1, h2]
theorem jo_y {nj : Nat → Int64} {ofs : Nat → Int32} {m kn pn v j : Nat} {nm pm : Nat → Nat} (hJ : hs_Jt nj ofs m kn nm pn pm) (hw : hs_Jw kn nm pn pm) (hv : v < 27 ^ 8) (hj : j < m) (h : nj j = nJ (cv v)) : jo nm kn pm pn v = ofs j := by
  obtain ⟨w1, w2, w3, w4, w5, w6, w7⟩ := hw
  unfold jo
  rcases hJ.2.1 j hj with ⟨i, hi, h1, h2⟩ | ⟨p, hp, h1, h2⟩
  · rw [h] at h1
    have e := (nJ_cv hv (w3 i hi)).mp h1
    rw [e, nfd_is hi w5, h2]
  · rw [h] at h1
    have e := (nJ_cv hv (w4 p hp)).mp h1
    have e0 : nfd nm (pm p) kn = none := nfd_nn (fun i hi z => w7 i p hi hp z)
    rw [e, e0, nfd_is hp w6, h2]
theorem q_M_nameAt1 {f : Nat → Nat} {n E kn pn : Nat} {nm pm : Nat → Nat} {s : rd} {m : Nat} (hM : hs_M R) (h : hs_Rm I J f n E s) (hJ : hs_Jt (J 198) (I 200) m kn nm pn pm) (hw : hs_Jw kn nm pn pm) (hm : I 188 19 = nI m) (h1 : (tq f n s.2).1 = 1) : hn_F 0 hm_M_nameAt [.ref 188, .int 1] (I, J, R) (fun r D' => r = some (.int (jo nm kn pm pn (tq f n s.2).2.2.2)) ∧ D' = (I, J, R)) := by
  refine hn_F_of _ hk_M_nameAt rfl (Nat.le_of_ble_eq_true rfl) ?_
  obtain ⟨m1, m4, m5, m6, m9, m10, m11, m12, m14, m15, m16, m17, m20, m21, m22, m23, m25, m27, m28, m29, m30, m31, m32⟩ := id hM
  obtain ⟨hn, ht, h7, h8, hk, hb⟩ := id h
  have hE := ht.1
  have ev := (tt_at ht hk).2.2.1 h1
  have hv := ((tq_9 (f := f) (n := n) s.2).2 h1).1
  have hm12 : m ≤ 12 := by have := hJ.1; have := hw.1; have := hw.2.1; omega
  obtain ⟨V, hV⟩ : ∃ V, V = jo nm kn pm pn (tq f n s.2).2.2.2 := ⟨_, rfl⟩
  rw [← hV]
  obtain ⟨P, hP⟩ : ∃ P : Option Value → hnD → Prop, P = (fun r D' => r = some (.int V) ∧ D' = (I, J, R)) := ⟨_, rfl⟩
  rw [← hP]
  have lp : (∀ j, j < 0 → ¬ J 198 j = nJ (cv (tq f n s.2).2.2.2)) → hn_B 0 hm_M_nameAt P 2 [.ref 188, .int 1, .int (nI 0)] [] (I, J, R) := by
    refine sp_ind m (fun k => (∀ j, j < k → ¬ J 198 j = nJ (cv (tq f n s.2).2.2.2)) → hn_B 0 hm_M_nameAt P 2 [.ref 188, .int 1, .int (nI k)] [] (I, J, R)) ?_ ?_
    · intro hno
      refine b_iload_n rfl rfl ?_
      refine b_iload_n rfl rfl ?_
      refine b_if_eq rfl (fun c_4 => ?_) (fun c_4 => ?_)
      · exact absurd c_4 (by decide)
      · refine b_aload_n rfl rfl ?_
        refine b_getI rfl (by first | rfl | assumption) rfl ?_
        refine b_goto rfl ?_
        rw [hm]
        refine b_icmp_ge rfl (fun c_18 => ?_) (fun c_18 => ?_)
        · refine b_iconst rfl ?_
          exact b_ireturn rfl trivial ((by rw [hP, hV, jo_n hJ hno]; exact ⟨rfl, rfl⟩))
        · exact absurd (nI_le (Nat.le_refl _) (by omega)) c_18
    · intro k hk2 ih hno
      by_cases hc : J 198 k = nJ (cv (tq f n s.2).2.2.2)
      · refine b_iload_n rfl rfl ?_
        refine b_iload_n rfl rfl ?_
        refine b_if_eq rfl (fun c_4 => ?_) (fun c_4 => ?_)
        · exact absurd c_4 (by decide)
        · refine b_aload_n rfl rfl ?_
          refine b_getI rfl (by first | rfl | assumption) rfl ?_
          refine b_goto rfl ?_
          rw [hm]
          refine b_icmp_ge rfl (fun c_18 => ?_) (fun c_18 => ?_)
          · exact absurd c_18 (nI_ge hk2 (by omega))
          · refine b_iload_n rfl rfl ?_
            refine b_if_eq rfl (fun c_22 => ?_) (fun c_22 => ?_)
            · exact absurd c_22 (by decide)
            · refine b_aload_n rfl rfl ?_
              refine b_getR rfl (by first | rfl | assumption) rfl (by assumption) ?_
              refine b_iload_n rfl rfl ?_
              refine b_laload rfl (by first | rfl | assumption) (by decide) (nI_toInt (n := k) (by omega)) (by omega) ?_
              refine b_goto rfl ?_
              rw [hc]
              refine b_aload_n rfl rfl ?_
              refine b_getR rfl (by first | rfl | assumption) rfl (by assumption) ?_
              refine b_aload_n rfl rfl ?_
              refine b_getI rfl (by first | rfl | assumption) rfl ?_
              rw [h7]
              refine b_laload rfl (by first | rfl | assumption) (by decide) (nI_toInt (n := s.2) (by omega)) (by omega) ?_
              rw [ev]
              refine b_lcmp rfl ?_
              refine b_if_ne rfl (fun c_50 => ?_) (fun c_50 => ?_)
              · exact absurd ((lg_cmp_eq _ _).mpr rfl) c_50
              · refine b_iload_n rfl rfl ?_
                refine b_if_eq rfl (fun c_54 => ?_) (fun c_54 => ?_)
                · exact absurd c_54 (by decide)
                · refine b_aload_n rfl rfl ?_
                  refine b_getR rfl (by first | rfl | assumption) rfl (by assumption) ?_
                  refine b_iload_n rfl rfl ?_
                  refine b_iaload rfl (by first | rfl | assumption) (nI_toInt (n := k) (by omega)) (by omega) ?_
                  refine b_goto rfl ?_
                  exact b_ireturn rfl trivial ((by rw [hP, hV, jo_y hJ hw hv hk2 hc]; exact ⟨rfl, rfl⟩))
      · refine b_iload_n rfl rfl ?_
        refine b_iload_n rfl rfl ?_
        refine b_if_eq rfl (fun c_4 => ?_) (fun c_4 => ?_)
        · exact absurd c_4 (by decide)
        · refine b_aload_n rfl rfl ?_
          refine b_getI rfl (by first | rfl | assumption) rfl ?_
          refine b_goto rfl ?_
          rw [hm]
          refine b_icmp_ge rfl (fun c_18 => ?_) (fun c_18 => ?_)
          · exact absurd c_18 (nI_ge hk2 (by omega))
          · refine b_iload_n rfl rfl ?_
            refine b_if_eq rfl (fun c_22 => ?_) (fun c_22 => ?_)
            · exact absurd c_22 (by decide)
            · refine b_aload_n rfl rfl ?_
              refine b_getR rfl (by first | rfl | assumption) rfl (by assumption) ?_
              refine b_iload_n rfl rfl ?_
              refine b_laload rfl (by first | rfl | assumption) (by decide) (nI_toInt (n := k) (by omega)) (by omega) ?_
              refine b_goto rfl ?_
              refine b_aload_n rfl rfl ?_
              refine b_getR rfl (by first | rfl | assumption) rfl (by assumption) ?_
              refine b_aload_n rfl rfl ?_
              refine b_getI rfl (by first | rfl | assumption) rfl ?_
              rw [h7]
              refine b_laload rfl (by first | rfl | assumption) (by decide) (nI_toInt (n := s.2) (by omega)) (by omega) ?_
              rw [ev]
              refine b_lcmp rfl ?_
              refine b_if_ne rfl (fun c_50 => ?_) (fun c_50 => ?_)
              · refine b_iinc rfl rfl (Nat.le_of_ble_eq_true rfl) ?_
                refine b_goto rfl ?_
                exact b_lp (ih (fun j hj => by (by_cases hjk : j = k); (rw [hjk]; exact hc); (exact hno j (by omega)))) (le_e (le_e (le_q (by rw [nI_succ]) le_0))) rfl rfl
              · exact absurd ((lg_cmp_eq _ _).mp c_50) hc
  refine b_iconst rfl ?_
  refine b_istore_n rfl (Nat.le_of_ble_eq_true rfl) ?_
  exact b_lp (lp (fun j hj => absurd hj (Nat.not_lt_zero _))) (le_e (le_e (le_q (by rfl) le_0))) rfl rfl
theorem q_M_nameAt0 {f : Nat → Nat} {n E kn pn : Nat} {nm pm : Nat → Nat} {s : rd} {m : Nat} (hM : hs_M R) (h : hs_Rm I J f n E s) (hJ : hs_Jt (J 197) (I 199) m kn nm pn pm) (hw : hs_Jw kn nm pn pm) (hm : I 188 18 = nI m) (h1 : (tq f n s.2).1 = 1) : hn_F 0 hm_M_nameAt [.ref 188, .int 0] (I, J, R) (fun r D' => r = some (.int (jo nm kn pm pn (tq f n s.2).2.2.2)) ∧ D' = (I, J, R)) := by
  refine hn_F_of _ hk_M_nameAt rfl (Nat.le_of_ble_eq_true rfl) ?_
  obtain ⟨m1, m4, m5, m6, m9, m10, m11, m12, m14, m15, m16, m17, m20, m21, m22, m23, m25, m27, m28, m29, m30, m31, m32⟩ := id hM
  obtain ⟨hn, ht, h7, h8, hk, hb⟩ := id h
  have hE := ht.1
  have ev := (tt_at ht hk).2.2.1 h1
  have hv := ((tq_9 (f := f) (n := n) s.2).2 h1).1
  have hm12 : m ≤ 12 := by have := hJ.1; have := hw.1; have := hw.2.1; omega
  obtain ⟨V, hV⟩ : ∃ V, V = jo nm kn pm pn (tq f n s.2).2.2.2 := ⟨_, rfl⟩
  rw [← hV]
  obtain ⟨P, hP⟩ : ∃ P : Option Value → hnD → Prop, P = (fun r D' => r = some (.int V) ∧ D' = (I, J, R)) := ⟨_, rfl⟩
  rw [← hP]
  have lp : (∀ j, j < 0 → ¬ J 197 j = nJ (cv (tq f n s.2).2.2.2)) → hn_B 0 hm_M_nameAt P 2 [.ref 188, .int 0, .int (nI 0)] [] (I, J, R) := by
    refine sp_ind m (fun k => (∀ j, j < k → ¬ J 197 j = nJ (cv (tq f n s.2).2.2.2)) → hn_B 0 hm_M_nameAt P 2 [.ref 188, .int 0, .int (nI k)] [] (I, J, R)) ?_ ?_
    · intro hno
      refine b_iload_n rfl rfl ?_
      refine b_iload_n rfl rfl ?_
      refine b_if_eq rfl (fun c_4 => ?_) (fun c_4 => ?_)
      · refine b_aload_n rfl rfl ?_
        refine b_getI rfl (by first | rfl | assumption) rfl ?_
        rw [hm]
        refine b_icmp_ge rfl (fun c_18 => ?_) (fun c_18 => ?_)
        · refine b_iconst rfl ?_
          exact b_ireturn rfl trivial ((by rw [hP, hV, jo_n hJ hno]; exact ⟨rfl, rfl⟩))
        · exact absurd (nI_le (Nat.le_refl _) (by omega)) c_18
      · exact absurd (show (0 : Int32) = 0 from rfl) c_4
    · intro k hk2 ih hno
      by_cases hc : J 197 k = nJ (cv (tq f n s.2).2.2.2)
      · refine b_iload_n rfl rfl ?_
        refine b_iload_n rfl rfl ?_
        refine b_if_eq rfl (fun c_4 => ?_) (fun c_4 => ?_)
        · refine b_aload_n rfl rfl ?_
          refine b_getI rfl (by first | rfl | assumption) rfl ?_
          rw [hm]
          refine b_icmp_ge rfl (fun c_18 => ?_) (fun c_18 => ?_)
          · exact absurd c_18 (nI_ge hk2 (by omega))
          · refine b_iload_n rfl rfl ?_
            refine b_if_eq rfl (fun c_22 => ?_) (fun c_22 => ?_)
            · refine b_aload_n rfl rfl ?_
              refine b_getR rfl (by first | rfl | assumption) rfl (by assumption) ?_
              refine b_iload_n rfl rfl ?_
              refine b_laload rfl (by first | rfl | assumption) (by decide) (by first | assumption | exact nI_toInt (by omega) | exact hi_l0 | exact hi_l1 | exact hi_l2 | exact hi_l3 | exact hi_l4 | exact hi_l5 | exact hi_l6) (by omega) ?_
              rw [hc]
              refine b_aload_n rfl rfl ?_
              refine b_getR rfl (by first | rfl | assumption) rfl (by assumption) ?_
              refine b_aload_n rfl rfl ?_
              refine b_getI rfl (by first | rfl | assumption) rfl ?_
              rw [h7]
              refine b_laload rfl (by first | rfl | assumption) (by decide) (nI_toInt (n := s.2) (by omega)) (by omega) ?_
              rw [ev]
              refine b_lcmp rfl ?_
              refine b_if_ne rfl (fun c_50 => ?_) (fun c_50 => ?_)
              · exact absurd ((lg_cmp_eq _ _).mpr rfl) c_50
              · refine b_iload_n rfl rfl ?_
                refine b_if_eq rfl (fun c_54 => ?_) (fun c_54 => ?_)
                · refine b_aload_n rfl rfl ?_
                  refine b_getR rfl (by first | rfl | assumption) rfl (by assumption) ?_
                  refine b_iload_n rfl rfl ?_
                  refine b_iaload rfl (by first | rfl | assumption) (by first | assumption | exact nI_toInt (by omega) | exact hi_l0 | exact hi_l1 | exact hi_l2 | exact hi_l3 | exact hi_l4 | exact hi_l5 | exact hi_l6) (by omega) ?_
                  exact b_ireturn rfl trivial ((by rw [hP, hV, jo_y hJ hw hv hk2 hc]; exact ⟨rfl, rfl⟩))
                · exact absurd (show (0 : Int32) = 0 from rfl) c_54
            · exact absurd (show (0 : Int32) = 0 from rfl) c_22
        · exact absurd (show (0 : Int32) = 0 from rfl) c_4
      · refine b_iload_n rfl rfl ?_
        refine b_iload_n rfl rfl ?_
        refine b_if_eq rfl (fun c_4 => ?_) (fun c_4 => ?_)
        · refine b_aload_n rfl rfl ?_
          refine b_getI rfl (by first | rfl | assumption) rfl ?_
          rw [hm]
          refine b_icmp_ge rfl (fun c_18 => ?_) (fun c_18 => ?_)
          · exact absurd c_18 (nI_ge hk2 (by omega))
          · refine b_iload_n rfl rfl ?_
            refine b_if_eq rfl (fun c_22 => ?_) (fun c_22 => ?_)
            · refine b_aload_n rfl rfl ?_
              refine b_getR rfl (by first | rfl | assumption) rfl (by assumption) ?_
              refine b_iload_n rfl rfl ?_
              refine b_laload rfl (by first | rfl | assumption) (by decide) (by first | assumption | exact nI_toInt (by omega) | exact hi_l0 | exact hi_l1 | exact hi_l2 | exact hi_l3 | exact hi_l4 | exact hi_l5 | exact hi_l6) (by omega) ?_
              refine b_aload_n rfl rfl ?_
              refine b_getR rfl (by first | rfl | assumption) rfl (by assumption) ?_
              refine b_aload_n rfl rfl ?_
              refine b_getI rfl (by first | rfl | assumption) rfl ?_
              rw [h7]
              refine b_laload rfl (by first | rfl | assumption) (by decide) (nI_toInt (n := s.2) (by omega)) (by omega) ?_
              rw [ev]
              refine b_lcmp rfl ?_
              refine b_if_ne rfl (fun c_50 => ?_) (fun c_50 => ?_)
              · refine b_iinc rfl rfl (Nat.le_of_ble_eq_true rfl) ?_
                refine b_goto rfl ?_
                exact b_lp (ih (fun j hj => by (by_cases hjk : j = k); (rw [hjk]; exact hc); (exact hno j (by omega)))) (le_e (le_e (le_q (by rw [nI_succ]) le_0))) rfl rfl
              · exact absurd ((lg_cmp_eq _ _).mp c_50) hc
            · exact absurd (show (0 : Int32) = 0 from rfl) c_22
        · exact absurd (show (0 : Int32) = 0 from rfl) c_4
  refine b_iconst rfl ?_
  refine b_istore_n rfl (Nat.le_of_ble_eq_true rfl) ?_
  exact b_lp (lp (fun j hj => absurd hj (Nat.not_lt_zero _))) (le_e (le_e (le_q (by rfl) le_0))) rfl rfl
/-- told: one of a table, not one that stands there already -/
def pT (f : Nat → Nat) (n : Nat) (tb : Nat → Nat) (tn : Nat) (bu : Int32) (s : rd) : rd := if nAt f n s then (match nfd tb (tq f n s.2).2.2.2 tn with | none => fl f n 2 s | some k => p_u f n (sp_bit bu k) 3 s) else p_a f n s
def tbz (z : Int32) (o : Option Nat) : Prop := match o with
  | some k => z = nI k ∧ k < 8
  | none => ¬ ((0 : Int32).toInt ≤ z.toInt ∧ z.toInt ≤ (7 : Int32).toInt)
theorem tbz_0 {kn pn v : Nat} {nm pm : Nat → Nat} (hw : hs_Jw kn nm pn pm) : tbz (jo nm kn pm pn v - nI 0) (nfd nm v kn) := by
  rw [show jo nm kn pm pn v - nI 0 = jo nm kn pm pn v from Int32.sub_zero _]
  have h1 := hw.1
  have h2 := hw.2.1
  unfold jo
  rcases nfd_or nm v kn with e | ⟨i, e⟩
  · rw [e]
    rcases nfd_or pm v pn with e2 | ⟨p, e2⟩
    · rw [e2]
      show ¬ ((0 : Int32).toInt ≤ (-1 : Int32).toInt ∧ _)
      decide
    · rw [e2]
      have := (nfd_lt e2).1
      show ¬ ((0 : Int32).toInt ≤ (nI (20 + p)).toInt ∧ (nI (20 + p)).toInt ≤ (7 : Int32).toInt)
      rw [nI_toInt (by omega), show (7 : Int32).toInt = 7 by decide]
      omega
  · rw [e]
    exact ⟨rfl, by have := (nfd_lt e).1; omega⟩
theorem tbz_20 {kn pn v : Nat} {nm pm : Nat → Nat} (hw : hs_Jw kn nm pn pm) : tbz (jo nm kn pm pn v - nI 20) (nfd pm v pn) := by
  have h1 := hw.1
  have h2 := hw.2.1
  unfold jo
  rcases nfd_or nm v kn with e | ⟨i, e⟩
  · rw [e]
    rcases nfd_or pm v pn with e2 | ⟨p, e2⟩
    · rw [e2]
      show ¬ ((0 : Int32).toInt ≤ ((-1 : Int32) - nI 20).toInt ∧ _)
      decide
    · rw [e2]
      have := (nfd_lt e2).1
      refine ⟨?_, by omega⟩
      show nI (20 + p) - nI 20 = nI p
      rw [nI_sb (by omega), Nat.add_sub_cancel_left]
  · obtain ⟨a1, a2⟩ := nfd_lt e
    have e2 : nfd pm v pn = none := nfd_nn (fun p hp z => hw.2.2.2.2.2.2 i p a1 hp (a2.trans z.symm))
    rw [e, e2]
    have key : ∀ i : Fin 8, ¬ ((0 : Int32).toInt ≤ (nI i.val - nI 20).toInt ∧ (nI i.val - nI 20).toInt ≤ (7 : Int32).toInt) := by decide +kernel
    exact key ⟨i, by omega⟩
theorem sh_1 {x : Int32} {k : Nat} : (x >>> (nI k &&& 31)) &&& 1 = 1 ↔ sp_bit x k := hi_bit1 _
theorem p_a_f {f : Nat → Nat} {n : Nat} {s : rd} (h : ¬ nAt f n s) (h0 : s.1 = 0) : p_a f n s = p_f f n 1 s := (if_pos ⟨h0, fun z => h ⟨h0, z⟩⟩).trans (if_pos h0).symm
theorem q_M_takeTold {f : Nat → Nat} {n E tn fr : Nat} {tb : Nat → Nat} {b x bu V : Int32} {s : rd} (hM : hs_M R) (hW : hs_Wm J) (h : hs_Rm I J f n E s) (hx : x = nI fr) (hV : s.1 = 0 → (tq f n s.2).1 = 1 → hn_F 0 hm_M_nameAt [.ref 188, .int b] (I, J, R) (fun r D' => r = some (.int V) ∧ D' = (I, J, R))) (hz : tbz (V - nI fr) (nfd tb (tq f n s.2).2.2.2 tn)) : hn_F 3 hm_M_takeTold [.ref 188, .int b, .int x, .int bu] (I, J, R) (fun r D' => (∃ z, r = some (.int z) ∧ ((pT f n tb tn bu s).1 = 0 → z = oI (o_k f n tb tn s))) ∧ (¬ (pT f n tb tn bu s).1 = 0 → r = some (.int 0)) ∧ hs_mp I J R f n E (pT f n tb tn bu s) D') := by
  subst hx
  refine hn_F_of _ hk_M_takeTold rfl (Nat.le_of_ble_eq_true rfl) ?_
  obtain ⟨hn, ht, h7, h8, hk, hb⟩ := id h
  obtain ⟨Z, hZ⟩ : ∃ Z, Z = pT f n tb tn bu s := ⟨_, rfl⟩
  rw [← hZ]
  obtain ⟨P, hP⟩ : ∃ P : Option Value → hnD → Prop, P = (fun r D' => (∃ z, r = some (.int z) ∧ (Z.1 = 0 → z = oI (o_k f n tb tn s))) ∧ (¬ Z.1 = 0 → r = some (.int 0)) ∧ hs_mp I J R f n E Z D') := ⟨_, rfl⟩
  rw [← hP]
  have S87 : ∀ I2 v, hs_mf I I2 → hs_Rm I2 J f n E Z → ¬ Z.1 = 0 → hn_B 3 hm_M_takeTold P 87 [.ref 188, .int b, .int (nI fr), .int bu, .int v] [] (I2, J, R) := by
    intro I2 v g2 k2 hzz
    refine b_aload_n rfl rfl ?_
    refine b_dup rfl rfl ?_
    refine b_getI rfl (by first | rfl | assumption) rfl ?_
    refine b_aload_n rfl rfl ?_
    refine b_getI rfl (by first | rfl | assumption) rfl ?_
    rw [k2.2.2.2.1]
    refine b_if_le rfl (fun c_96 => ?_) (fun c_96 => ?_)
    · exact absurd c_96 (nI_ps hzz (by have := k2.2.2.2.2.2; omega))
    · refine b_iconst rfl ?_
      refine b_goto rfl ?_
      refine b_iadd rfl ?_
      rw [k2.2.2.1, Int32.add_zero]
      refine b_putI rfl (by first | rfl | assumption) rfl rfl ⟨rfl, rfl⟩ ?_
      refine b_aload_n rfl rfl ?_
      refine b_getI rfl (by first | rfl | assumption) rfl ?_
      have e8 : hn_u I2 188 7 (nI Z.2) 188 8 = nI Z.1 := (by rw [hn_u_eq, va_up, if_neg (by omega)]; exact k2.2.2.2.1)
      rw [e8]
      refine b_if_le rfl (fun c_112 => ?_) (fun c_112 => ?_)
      · exact absurd c_112 (nI_ps hzz (by have := k2.2.2.2.2.2; omega))
      · refine b_iconst rfl ?_
        refine b_goto rfl ?_
        exact b_ireturn rfl trivial ((by rw [hP]; exact ⟨⟨0, rfl, fun z => absurd z hzz⟩, fun _ => rfl, _, rfl, hs_mf_t g2 mf_7, hs_Rm_s k2 mf_7 (by rw [hn_u_eq, va_up, if_pos rfl]) e8 k2.2.2.2.2.1 k2.2.2.2.2.2⟩))
  have S19 : ∀ I2, hs_mf I I2 → hs_Rm I2 J f n E Z → ¬ Z.1 = 0 → hn_B 3 hm_M_takeTold P 19 [.ref 188, .int b, .int (nI fr), .int bu, .null] [] (I2, J, R) := by
    intro I2 g2 k2 hzz
    refine b_aload_n rfl rfl ?_
    refine b_getI rfl (by first | rfl | assumption) rfl ?_
    rw [k2.2.2.2.1]
    refine b_if_le rfl (fun c_23 => ?_) (fun c_23 => ?_)
    · exact absurd c_23 (nI_ps hzz (by have := k2.2.2.2.2.2; omega))
    · refine b_iconst rfl ?_
      refine b_goto rfl ?_
      refine b_istore rfl (Nat.le_of_ble_eq_true rfl) ?_
      refine b_aload_n rfl rfl ?_
      refine b_getI rfl (by first | rfl | assumption) rfl ?_
      rw [k2.2.2.2.1]
      refine b_if_ne rfl (fun c_43 => ?_) (fun c_43 => ?_)
      · refine b_aload_n rfl rfl ?_
        refine b_getI rfl (by first | rfl | assumption) rfl ?_
        rw [k2.2.2.2.1]
        refine b_if_ne rfl (fun c_69 => ?_) (fun c_69 => ?_)
        · exact S87 I2 _ g2 k2 hzz
        · exact absurd ((hi_nIe (k := 0) (by have := k2.2.2.2.2.2; omega) (by omega)).mp c_69) hzz
      · exact absurd ((hi_nIe (k := 0) (by have := k2.2.2.2.2.2; omega) (by omega)).mp c_43) hzz
  by_cases h0 : s.1 = 0
  · by_cases hA : nAt f n s
    · have h1 : (tq f n s.2).1 = 1 := hA.2.1
      have eA : pT f n tb tn bu s = (match nfd tb (tq f n s.2).2.2.2 tn with | none => fl f n 2 s | some k => p_u f n (sp_bit bu k) 3 s) := if_pos hA
      have eO : o_k f n tb tn s = nfd tb (tq f n s.2).2.2.2 tn := if_pos hA
      have hV := hV h0 h1
      rcases nfd_or tb (tq f n s.2).2.2.2 tn with e | ⟨k, e⟩
      · rw [e] at eA eO hz
        have eZ : Z = p_f f n 2 s := by rw [hZ, eA]; exact (if_pos h0).symm
        have hzz : ¬ Z.1 = 0 := by rw [hZ, eA]; exact fl_ne (by omega)
        refine b_aload_n rfl rfl ?_
        refine b_getI rfl (by first | rfl | assumption) rfl ?_
        rw [h8]
        refine b_if_ne rfl (fun c_4 => ?_) (fun c_4 => ?_)
        · exact absurd (show nI s.1 = 0 by rw [h0]; rfl) c_4
        · refine b_aload_n rfl rfl ?_
          refine b_callV rfl rfl hk_M_isName rfl rfl rfl (by first | rfl | assumption) rfl (Nat.le_of_ble_eq_true rfl) (q_M_isName hM hW h) (Nat.le_of_ble_eq_true rfl) (fun r_8 D_8 q_8 => ?_)
          obtain ⟨⟨b1, rfl, hb1⟩, rfl⟩ := q_8
          refine b_if_ne rfl (fun c_11 => ?_) (fun c_11 => ?_)
          · refine b_aload_n rfl rfl ?_
            refine b_getI rfl (by first | rfl | assumption) rfl ?_
            rw [h8]
            refine b_if_le rfl (fun c_23 => ?_) (fun c_23 => ?_)
            · refine b_aload_n rfl rfl ?_
              refine b_iload_n rfl rfl ?_
              refine b_callV rfl rfl hk_M_nameAt rfl rfl rfl (by first | rfl | assumption) rfl (Nat.le_of_ble_eq_true rfl) (hV) (Nat.le_of_ble_eq_true rfl) (fun r_32 D_32 q_32 => ?_)
              obtain ⟨rfl, rfl⟩ := q_32
              refine b_iload_n rfl rfl ?_
              refine b_isub rfl ?_
              refine b_istore rfl (Nat.le_of_ble_eq_true rfl) ?_
              refine b_aload_n rfl rfl ?_
              refine b_getI rfl (by first | rfl | assumption) rfl ?_
              rw [h8]
              refine b_if_ne rfl (fun c_43 => ?_) (fun c_43 => ?_)
              · exact absurd (show nI s.1 = 0 by rw [h0]; rfl) c_43
              · refine b_iload rfl rfl ?_
                refine b_iconst rfl ?_
                refine b_bipush rfl ?_
                refine b_callS rfl rfl hk_M_within rfl rfl rfl (Nat.le_of_ble_eq_true rfl) (q_M_within) (Nat.le_of_ble_eq_true rfl) (fun r_51 D_51 q_51 => ?_)
                obtain ⟨rfl, hq⟩ := q_51
                rw [if_neg hz] at hq
                subst hq
                refine b_if_ne rfl (fun c_54 => ?_) (fun c_54 => ?_)
                · exact absurd rfl c_54
                · refine b_aload_n rfl rfl ?_
                  refine b_iconst rfl ?_
                  refine b_callV rfl rfl hk_M_wrong rfl rfl rfl (by first | rfl | assumption) rfl (Nat.le_of_ble_eq_true rfl) (q_M_wrong (c := 2) hM h (by omega)) (Nat.le_of_ble_eq_true rfl) (fun r_59 D_59 q_59 => ?_)
                  obtain ⟨rfl, I2, rfl, g2, k2⟩ := q_59
                  rw [← eZ] at k2
                  refine b_goto rfl ?_
                  exact S87 I2 _ g2 k2 hzz
            · exact absurd (show nI s.1 ≤ 0 by rw [h0]; decide) c_23
          · rcases hb1 with ⟨_, hb1⟩ | ⟨hb1, _⟩ <;> first | exact absurd hA hb1 | (rw [hb1] at c_11; exact absurd c_11 (by decide))
      · rw [e] at eA eO hz
        obtain ⟨hz1, hk8⟩ := hz
        have hin : (0 : Int32).toInt ≤ (V - nI fr).toInt ∧ (V - nI fr).toInt ≤ (7 : Int32).toInt := by
          rw [hz1, nI_toInt (by omega), show (0 : Int32).toInt = 0 by decide, show (7 : Int32).toInt = 7 by decide]; omega
        by_cases hQ : sp_bit bu k
        · have eZ : Z = p_f f n 3 s := by rw [hZ, eA]; exact (if_pos hQ).trans (if_pos h0).symm
          have hzz : ¬ Z.1 = 0 := by rw [eZ, show p_f f n 3 s = fl f n 3 s from if_pos h0]; exact fl_ne (by omega)
          refine b_aload_n rfl rfl ?_
          refine b_getI rfl (by first | rfl | assumption) rfl ?_
          rw [h8]
          refine b_if_ne rfl (fun c_4 => ?_) (fun c_4 => ?_)
          · exact absurd (show nI s.1 = 0 by rw [h0]; rfl) c_4
          · refine b_aload_n rfl rfl ?_
            refine b_callV rfl rfl hk_M_isName rfl rfl rfl (by first | rfl | assumption) rfl (Nat.le_of_ble_eq_true rfl) (q_M_isName hM hW h) (Nat.le_of_ble_eq_true rfl) (fun r_8 D_8 q_8 => ?_)
            obtain ⟨⟨b1, rfl, hb1⟩, rfl⟩ := q_8
            refine b_if_ne rfl (fun c_11 => ?_) (fun c_11 => ?_)
            · refine b_aload_n rfl rfl ?_
              refine b_getI rfl (by first | rfl | assumption) rfl ?_
              rw [h8]
              refine b_if_le rfl (fun c_23 => ?_) (fun c_23 => ?_)
              · refine b_aload_n rfl rfl ?_
                refine b_iload_n rfl rfl ?_
                refine b_callV rfl rfl hk_M_nameAt rfl rfl rfl (by first | rfl | assumption) rfl (Nat.le_of_ble_eq_true rfl) (hV) (Nat.le_of_ble_eq_true rfl) (fun r_32 D_32 q_32 => ?_)
                obtain ⟨rfl, rfl⟩ := q_32
                refine b_iload_n rfl rfl ?_
                refine b_isub rfl ?_
                refine b_istore rfl (Nat.le_of_ble_eq_true rfl) ?_
                refine b_aload_n rfl rfl ?_
                refine b_getI rfl (by first | rfl | assumption) rfl ?_
                rw [h8]
                refine b_if_ne rfl (fun c_43 => ?_) (fun c_43 => ?_)
                · exact absurd (show nI s.1 = 0 by rw [h0]; rfl) c_43
                · refine b_iload rfl rfl ?_
                  refine b_iconst rfl ?_
                  refine b_bipush rfl ?_
                  refine b_callS rfl rfl hk_M_within rfl rfl rfl (Nat.le_of_ble_eq_true rfl) (q_M_within) (Nat.le_of_ble_eq_true rfl) (fun r_51 D_51 q_51 => ?_)
                  obtain ⟨rfl, hq⟩ := q_51
                  rw [if_pos hin] at hq
                  subst hq
                  refine b_if_ne rfl (fun c_54 => ?_) (fun c_54 => ?_)
                  · refine b_aload_n rfl rfl ?_
                    refine b_getI rfl (by first | rfl | assumption) rfl ?_
                    rw [h8]
                    refine b_if_ne rfl (fun c_69 => ?_) (fun c_69 => ?_)
                    · exact absurd (show nI s.1 = 0 by rw [h0]; rfl) c_69
                    · refine b_iload_n rfl rfl ?_
                      refine b_iload rfl rfl ?_
                      rw [hz1]
                      refine b_ishr rfl ?_
                      refine b_iconst rfl ?_
                      refine b_iand rfl ?_
                      refine b_iconst rfl ?_
                      refine b_icmp_ne rfl (fun c_79 => ?_) (fun c_79 => ?_)
                      · exact absurd (sh_1.mpr hQ) c_79
                      · refine b_aload_n rfl rfl ?_
                        refine b_iconst rfl ?_
                        refine b_callV rfl rfl hk_M_wrong rfl rfl rfl (by first | rfl | assumption) rfl (Nat.le_of_ble_eq_true rfl) (q_M_wrong (c := 3) hM h (by omega)) (Nat.le_of_ble_eq_true rfl) (fun r_84 D_84 q_84 => ?_)
                        obtain ⟨rfl, I2, rfl, g2, k2⟩ := q_84
                        rw [← eZ] at k2
                        exact S87 I2 _ g2 k2 hzz
                  · exact absurd c_54 (by decide)
              · exact absurd (show nI s.1 ≤ 0 by rw [h0]; decide) c_23
            · rcases hb1 with ⟨_, hb1⟩ | ⟨hb1, _⟩ <;> first | exact absurd hA hb1 | (rw [hb1] at c_11; exact absurd c_11 (by decide))
        · have eZ : Z = (0, s.2 + 1) := by rw [hZ, eA]; exact if_neg hQ
          have on := mp_on (R := R) h h0 (by rw [h1]; omega)
          rw [← eZ] at on
          refine b_aload_n rfl rfl ?_
          refine b_getI rfl (by first | rfl | assumption) rfl ?_
          rw [h8]
          refine b_if_ne rfl (fun c_4 => ?_) (fun c_4 => ?_)
          · exact absurd (show nI s.1 = 0 by rw [h0]; rfl) c_4
          · refine b_aload_n rfl rfl ?_
            refine b_callV rfl rfl hk_M_isName rfl rfl rfl (by first | rfl | assumption) rfl (Nat.le_of_ble_eq_true rfl) (q_M_isName hM hW h) (Nat.le_of_ble_eq_true rfl) (fun r_8 D_8 q_8 => ?_)
            obtain ⟨⟨b1, rfl, hb1⟩, rfl⟩ := q_8
            refine b_if_ne rfl (fun c_11 => ?_) (fun c_11 => ?_)
            · refine b_aload_n rfl rfl ?_
              refine b_getI rfl (by first | rfl | assumption) rfl ?_
              rw [h8]
              refine b_if_le rfl (fun c_23 => ?_) (fun c_23 => ?_)
              · refine b_aload_n rfl rfl ?_
                refine b_iload_n rfl rfl ?_
                refine b_callV rfl rfl hk_M_nameAt rfl rfl rfl (by first | rfl | assumption) rfl (Nat.le_of_ble_eq_true rfl) (hV) (Nat.le_of_ble_eq_true rfl) (fun r_32 D_32 q_32 => ?_)
                obtain ⟨rfl, rfl⟩ := q_32
                refine b_iload_n rfl rfl ?_
                refine b_isub rfl ?_
                refine b_istore rfl (Nat.le_of_ble_eq_true rfl) ?_
                refine b_aload_n rfl rfl ?_
                refine b_getI rfl (by first | rfl | assumption) rfl ?_
                rw [h8]
                refine b_if_ne rfl (fun c_43 => ?_) (fun c_43 => ?_)
                · exact absurd (show nI s.1 = 0 by rw [h0]; rfl) c_43
                · refine b_iload rfl rfl ?_
                  refine b_iconst rfl ?_
                  refine b_bipush rfl ?_
                  refine b_callS rfl rfl hk_M_within rfl rfl rfl (Nat.le_of_ble_eq_true rfl) (q_M_within) (Nat.le_of_ble_eq_true rfl) (fun r_51 D_51 q_51 => ?_)
                  obtain ⟨rfl, hq⟩ := q_51
                  rw [if_pos hin] at hq
                  subst hq
                  refine b_if_ne rfl (fun c_54 => ?_) (fun c_54 => ?_)
                  · refine b_aload_n rfl rfl ?_
                    refine b_getI rfl (by first | rfl | assumption) rfl ?_
                    rw [h8]
                    refine b_if_ne rfl (fun c_69 => ?_) (fun c_69 => ?_)
                    · exact absurd (show nI s.1 = 0 by rw [h0]; rfl) c_69
                    · refine b_iload_n rfl rfl ?_
                      refine b_iload rfl rfl ?_
                      rw [hz1]
                      refine b_ishr rfl ?_
                      refine b_iconst rfl ?_
                      refine b_iand rfl ?_
                      refine b_iconst rfl ?_
                      refine b_icmp_ne rfl (fun c_79 => ?_) (fun c_79 => ?_)
                      · refine b_aload_n rfl rfl ?_
                        refine b_dup rfl rfl ?_
                        refine b_getI rfl (by first | rfl | assumption) rfl ?_
                        refine b_aload_n rfl rfl ?_
                        refine b_getI rfl (by first | rfl | assumption) rfl ?_
                        rw [h8]
                        refine b_if_le rfl (fun c_96 => ?_) (fun c_96 => ?_)
                        · refine b_iconst rfl ?_
                          refine b_iadd rfl ?_
                          rw [h7, ← nI_succ]
                          refine b_putI rfl (by first | rfl | assumption) rfl rfl ⟨rfl, rfl⟩ ?_
                          refine b_aload_n rfl rfl ?_
                          refine b_getI rfl (by first | rfl | assumption) rfl ?_
                          have e8 : hn_u I 188 7 (nI (s.2 + 1)) 188 8 = nI s.1 := (by rw [hn_u_eq, va_up, if_neg (by omega)]; exact h8)
                          rw [e8]
                          refine b_if_le rfl (fun c_112 => ?_) (fun c_112 => ?_)
                          · refine b_iload rfl rfl ?_
                            exact b_ireturn rfl trivial ((by rw [hP]; exact ⟨⟨_, rfl, fun _ => by rw [eO]; rfl⟩, fun z => absurd (by rw [eZ]) z, on⟩))
                          · exact absurd (show nI s.1 ≤ 0 by rw [h0]; decide) c_112
                        · exact absurd (show nI s.1 ≤ 0 by rw [h0]; decide) c_96
                      · exact absurd (sh_1.mp c_79) hQ
                  · exact absurd c_54 (by decide)
              · exact absurd (show nI s.1 ≤ 0 by rw [h0]; decide) c_23
            · rcases hb1 with ⟨_, hb1⟩ | ⟨hb1, _⟩ <;> first | exact absurd hA hb1 | (rw [hb1] at c_11; exact absurd c_11 (by decide))
    · have eZ : Z = p_f f n 1 s := by rw [hZ, show pT f n tb tn bu s = p_a f n s from if_neg hA, p_a_f hA h0]
      have hzz : ¬ Z.1 = 0 := by rw [eZ, show p_f f n 1 s = fl f n 1 s from if_pos h0]; exact fl_ne (by omega)
      refine b_aload_n rfl rfl ?_
      refine b_getI rfl (by first | rfl | assumption) rfl ?_
      rw [h8]
      refine b_if_ne rfl (fun c_4 => ?_) (fun c_4 => ?_)
      · exact absurd (show nI s.1 = 0 by rw [h0]; rfl) c_4
      · refine b_aload_n rfl rfl ?_
        refine b_callV rfl rfl hk_M_isName rfl rfl rfl (by first | rfl | assumption) rfl (Nat.le_of_ble_eq_true rfl) (q_M_isName hM hW h) (Nat.le_of_ble_eq_true rfl) (fun r_8 D_8 q_8 => ?_)
        obtain ⟨⟨b1, rfl, hb1⟩, rfl⟩ := q_8
        refine b_if_ne rfl (fun c_11 => ?_) (fun c_11 => ?_)
        · rcases hb1 with ⟨hb1, _⟩ | ⟨_, hb1⟩ <;> first | exact absurd hb1 hA | exact absurd hb1 c_11
        · refine b_aload_n rfl rfl ?_
          refine b_iconst rfl ?_
          refine b_callV rfl rfl hk_M_wrong rfl rfl rfl (by first | rfl | assumption) rfl (Nat.le_of_ble_eq_true rfl) (q_M_wrong (c := 1) hM h (by omega)) (Nat.le_of_ble_eq_true rfl) (fun r_16 D_16 q_16 => ?_)
          obtain ⟨rfl, I2, rfl, g2, k2⟩ := q_16
          rw [← eZ] at k2
          exact S19 I2 g2 k2 hzz
  · have eZ : Z = s := by rw [hZ, show pT f n tb tn bu s = p_a f n s from if_neg (fun z => h0 z.1)]; exact if_neg (fun z => h0 z.1)
    refine b_aload_n rfl rfl ?_
    refine b_getI rfl (by first | rfl | assumption) rfl ?_
    rw [h8]
    refine b_if_ne rfl (fun c_4 => ?_) (fun c_4 => ?_)
    · exact S19 I hs_mf_r (by rw [eZ]; exact h) (by rw [eZ]; exact h0)
    · exact absurd ((hi_nIe (k := 0) (by omega) (by omega)).mp c_4) h0
theorem pT_kt {f : Nat → Nat} {n tn : Nat} {tb : Nat → Nat} {s : rd} : pT f n tb tn 0 s = p_kt f n tb tn s := by
  unfold pT p_kt
  by_cases hA : nAt f n s
  · rw [if_pos hA, if_pos hA]
    rcases nfd_or tb (tq f n s.2).2.2.2 tn with e | ⟨k, e⟩
    · rw [e]
      exact (if_pos rfl).symm
    · rw [e]
      exact (if_neg sp_bit_z).trans (if_neg (fun z => by cases z)).symm
  · rw [if_neg hA, if_neg hA]
theorem pT_o {f : Nat → Nat} {n kn a : Nat} {nm : Nat → Nat} {bu : Int32} {s : rd} (ha : a < 31) (hk : kn ≤ 8) : pT f n nm kn (bu ||| ((1 : Int32) <<< (nI a &&& 31))) s = p_o f n nm kn (nI a) bu s := by
  unfold pT p_o
  by_cases hA : nAt f n s
  · rw [if_pos hA, if_pos hA]
    rcases nfd_or nm (tq f n s.2).2.2.2 kn with e | ⟨k, e⟩
    · rw [e]
    · rw [e]
      have hk2 := (nfd_lt e).1
      have hb := sp_bit_or (a := bu) (b := (1 : Int32) <<< (nI a &&& 31)) (k := k) (by omega)
      have h1 := sp_bit_1 (j := a) (k := k) ha (by omega)
      have hi := hi_nIe (i := k) (k := a) (by omega) (by omega)
      show p_u f n (sp_bit (bu ||| ((1 : Int32) <<< (nI a &&& 31))) k) 3 s = p_u f n (nI k = nI a ∨ sp_bit bu k) 3 s
      unfold p_u
      by_cases hq : sp_bit (bu ||| ((1 : Int32) <<< (nI a &&& 31))) k
      · rw [if_pos hq, if_pos (by
          rcases hb.mp hq with z | z
          · exact Or.inr z
          · exact Or.inl (hi.mpr (h1.mp z)))]
      · rw [if_neg hq, if_neg (fun z => hq (hb.mpr (by
          rcases z with z | z
          · exact Or.inr (h1.mpr (hi.mp z))
          · exact Or.inl z)))]
  · rw [if_neg hA, if_neg hA]
end HNmnames
