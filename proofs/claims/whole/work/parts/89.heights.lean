section HNheights
/-! how high the pile of numbers stands behind a code, last first -/
def eh1 (v : Int32) (n : Nat) : Nat := if v < 10004 then n + 1 else if v = 10004 then n else if 2 ≤ n then n - 1 else n
def eh : List Int32 → Nat
  | [] => 0
  | v :: C => eh1 v (eh C)
def eg (b : Nat) : List Int32 → Prop
  | [] => True
  | v :: C => eg b C ∧ eh1 v (eh C) ≤ b ∧ (10004 ≤ v → 1 ≤ eh C) ∧ (10005 ≤ v → 2 ≤ eh C)
/-- a part leaves one number more -/
def hH (sub : mst → mst) (b c : Nat) : Prop := ∀ (k : Nat) (C : List Int32), eg b C → eh C + c ≤ b → (sub (0, k, C)).1 = 0 → eg b (sub (0, k, C)).2.2 ∧ eh (sub (0, k, C)).2.2 = eh C + 1
theorem rk_op {v : Int32} (h : 1 ≤ lu_rk v) : 10005 ≤ v ∧ ¬ v < 10004 ∧ ¬ v = 10004 := by
  unfold lu_rk at h
  have key : ∀ w : Int32, w = 10005 ∨ w = 10006 ∨ w = 10007 ∨ w = 10008 ∨ w = 10009 ∨ w = 10010 ∨ w = 10011 → 10005 ≤ w ∧ ¬ w < 10004 ∧ ¬ w = 10004 := by
    rintro w (rfl | rfl | rfl | rfl | rfl | rfl | rfl) <;> decide
  refine key v ?_
  by_cases h1 : v = 10005
  · exact Or.inl h1
  by_cases h2 : v = 10006
  · exact Or.inr (Or.inl h2)
  by_cases h3 : v = 10007
  · exact Or.inr (Or.inr (Or.inl h3))
  by_cases h4 : v = 10008
  · exact Or.inr (Or.inr (Or.inr (Or.inl h4)))
  by_cases h5 : v = 10009
  · exact Or.inr (Or.inr (Or.inr (Or.inr (Or.inl h5))))
  by_cases h6 : v = 10010
  · exact Or.inr (Or.inr (Or.inr (Or.inr (Or.inr (Or.inl h6)))))
  by_cases h7 : v = 10011
  · exact Or.inr (Or.inr (Or.inr (Or.inr (Or.inr (Or.inr h7)))))
  rw [if_neg h1, if_neg h2, if_neg h3, if_neg h4, if_neg h5, if_neg h6, if_neg h7] at h
  omega
theorem hH_l {T : Nat → tk} {sub : mst → mst} {q b c n : Nat} (hq : 1 ≤ q) (h : hH sub b c) (hc : n + 1 + c ≤ b) : ∀ (m : Nat) (x : mst), (x.1 = 0 → eg b x.2.2 ∧ eh x.2.2 = n + 1) → (lpq T sub q m x).1 = 0 → eg b (lpq T sub q m x).2.2 ∧ eh (lpq T sub q m x).2.2 = n + 1
  | 0, x, f, z => f z
  | m + 1, x, f, z => by
    have hu : lpq T sub q (m + 1) x = if x.1 = 0 ∧ lu_rk (lu_op (T x.2.1)) = q then lpq T sub q m (e_m (lu_op (T x.2.1)) (sub (0, x.2.1 + 1, x.2.2))) else x := rfl
    rw [hu] at z ⊢
    by_cases hx : x.1 = 0 ∧ lu_rk (lu_op (T x.2.1)) = q
    · rw [if_pos hx] at z ⊢
      refine hH_l hq h hc m _ (fun zz => ?_) z
      obtain ⟨g1, g2⟩ := f hx.1
      obtain ⟨g3, g4⟩ := h (x.2.1 + 1) x.2.2 g1 (by rw [g2]; exact hc) zz
      obtain ⟨v, hv⟩ : ∃ v, v = lu_op (T x.2.1) := ⟨_, rfl⟩
      rw [← hv]
      have r := rk_op (v := v) (by rw [hv]; omega)
      have e : eh1 v (eh (sub (0, x.2.1 + 1, x.2.2)).2.2) = n + 1 := by
        unfold eh1
        rw [if_neg r.2.1, if_neg r.2.2, g4, g2, if_pos (by omega)]
        omega
      show (eg b (sub (0, x.2.1 + 1, x.2.2)).2.2 ∧ eh1 v (eh (sub (0, x.2.1 + 1, x.2.2)).2.2) ≤ b ∧ (10004 ≤ v → 1 ≤ eh (sub (0, x.2.1 + 1, x.2.2)).2.2) ∧ (10005 ≤ v → 2 ≤ eh (sub (0, x.2.1 + 1, x.2.2)).2.2)) ∧ eh1 v (eh (sub (0, x.2.1 + 1, x.2.2)).2.2) = n + 1
      rw [e]
      exact ⟨⟨g3, by omega, fun _ => by omega, fun _ => by omega⟩, rfl⟩
    · rw [if_neg hx] at z ⊢
      exact f z
theorem hH_ch {T : Nat → tk} {sub : mst → mst} {q b c m : Nat} (hq : 1 ≤ q) (h : hH sub b c) : hH (fun s => lpq T sub q m (sub s)) b (c + 1) := by
  intro k C h1 h2 h3
  exact hH_l hq h (by omega) m _ (fun z => h k C h1 (by omega) z) h3
theorem hH_form {T : Nat → tk} {sub : mst → mst} {b c : Nat} (h : hH sub b c) : hH (m_form T sub) b (c + 4) :=
  hH_ch (by omega) (hH_ch (by omega) (hH_ch (by omega) (hH_ch (by omega) h)))
theorem pt_lt {x : tk} (hx : x.1 = 2 → x.2.2.2 < 10000) (h1 : ¬ pt x = -1) (h2 : ¬ pt x = 10004) (h3 : ¬ pt x = 10012) : pt x < 10004 := by
  unfold pt at h1 h2 h3 ⊢
  by_cases h : x.1 = 2
  · rw [if_pos h]
    have := hx h
    rw [Int32.lt_iff_toInt_lt, nI_toInt (by omega)]
    show (x.2.2.2 : Int) < 10004
    omega
  rw [if_neg h] at h1 h2 h3 ⊢
  by_cases h4 : p_isS x 40
  · rw [if_pos h4] at h3; exact absurd rfl h3
  rw [if_neg h4] at h1 h2 h3 ⊢
  by_cases h5 : ¬ hn_wnum.getD (wx x) 0 < 10000 ∧ ¬ 10004 < hn_wnum.getD (wx x) 0
  · rw [if_pos h5] at h1 h2 ⊢
    have a := h5.2
    rw [Int32.lt_iff_toInt_lt] at a ⊢
    have b : ¬ (hn_wnum.getD (wx x) 0).toInt = (10004 : Int32).toInt := fun z => h2 (Int32.toInt_inj.mp z)
    omega
  · rw [if_neg h5] at h1; exact absurd rfl h1
theorem hH_part {T : Nat → tk} (hT : ∀ k, (T k).1 = 2 → (T k).2.2.2 < 10000) {b : Nat} : ∀ L, hH (m_part T L) b (4 * L + 1)
  | 0 => by
    intro k C h1 h2 h3
    have hu : m_part T 0 (0, k, C) = if ¬ (0 : Nat) = 0 then (0, k, C) else if pt (T k) = -1 then (1, k, C) else (5, k, C) := rfl
    rw [hu, if_neg (fun z => z rfl)] at h3
    split at h3 <;> cases h3
  | L + 1 => by
    have ih := hH_part hT (b := b) L
    intro k C h1 h2 h3
    have hu : m_part T (L + 1) (0, k, C) = if ¬ (0 : Nat) = 0 then (0, k, C) else if pt (T k) = -1 then (1, k, C) else if pt (T k) = 10004 then e_m 10004 (m_part T L (0, k + 1, C)) else if pt (T k) = 10012 then t_cl T (m_form T (m_part T L) (0, k + 1, C)) else (0, k + 1, pt (T k) :: C) := rfl
    rw [hu, if_neg (fun z => z rfl)] at h3 ⊢
    by_cases hp : pt (T k) = -1
    · rw [if_pos hp] at h3; cases h3
    rw [if_neg hp] at h3 ⊢
    by_cases hn : pt (T k) = 10004
    · rw [if_pos hn] at h3 ⊢
      obtain ⟨g1, g2⟩ := ih (k + 1) C h1 (by omega) h3
      have e : eh1 10004 (eh (m_part T L (0, k + 1, C)).2.2) = eh C + 1 := by
        unfold eh1
        rw [if_neg (by decide), if_pos rfl, g2]
      show (eg b (m_part T L (0, k + 1, C)).2.2 ∧ eh1 10004 (eh (m_part T L (0, k + 1, C)).2.2) ≤ b ∧ ((10004 : Int32) ≤ 10004 → 1 ≤ eh (m_part T L (0, k + 1, C)).2.2) ∧ ((10005 : Int32) ≤ 10004 → 2 ≤ eh (m_part T L (0, k + 1, C)).2.2)) ∧ eh1 10004 (eh (m_part T L (0, k + 1, C)).2.2) = eh C + 1
      rw [e, g2]
      exact ⟨⟨g1, by omega, fun _ => by omega, fun z => absurd z (by decide)⟩, rfl⟩
    rw [if_neg hn] at h3 ⊢
    by_cases ho : pt (T k) = 10012
    · rw [if_pos ho] at h3 ⊢
      unfold t_cl at h3 ⊢
      by_cases h0 : (m_form T (m_part T L) (0, k + 1, C)).1 = 0
      · rw [if_pos h0] at h3 ⊢
        have g := hH_form (T := T) ih (k + 1) C h1 (by omega) h0
        split
        · exact g
        · rename_i hc
          rw [if_neg hc] at h3
          cases h3
      · rw [if_neg h0] at h3
        exact absurd h3 h0
    rw [if_neg ho]
    have hv := pt_lt (hT k) hp hn ho
    have e : eh1 (pt (T k)) (eh C) = eh C + 1 := if_pos hv
    have n4 : ∀ w : Int32, w < 10004 → ¬ 10004 ≤ w ∧ ¬ 10005 ≤ w := fun w hw => by
      rw [Int32.lt_iff_toInt_lt] at hw
      rw [Int32.le_iff_toInt_le, Int32.le_iff_toInt_le]
      have a1 : (10004 : Int32).toInt = 10004 := by decide
      have a2 : (10005 : Int32).toInt = 10005 := by decide
      omega
    have n := n4 _ hv
    show (eg b C ∧ eh1 (pt (T k)) (eh C) ≤ b ∧ (10004 ≤ pt (T k) → 1 ≤ eh C) ∧ (10005 ≤ pt (T k) → 2 ≤ eh C)) ∧ eh1 (pt (T k)) (eh C) = eh C + 1
    rw [e]
    exact ⟨⟨h1, by omega, fun z => absurd z n.1, fun z => absurd z n.2⟩, rfl⟩
theorem hH_law {T : Nat → tk} (hT : ∀ k, (T k).1 = 2 → (T k).2.2.2 < 10000) {k : Nat} (h : (m_form T (m_part T 5) (0, k, [])).1 = 0) : eg 64 (m_form T (m_part T 5) (0, k, [])).2.2 ∧ eh (m_form T (m_part T 5) (0, k, [])).2.2 = 1 :=
  hH_form (hH_part hT 5) k [] trivial (by show 0 + (4 * 5 + 1 + 4) ≤ 64; omega) h
/-! as the rows say it -/
theorem ev_eh {cs : Nat → Int32} : ∀ {C : List Int32}, ev_in cs C → ev_ln cs C.length = eh C
  | [], _ => rfl
  | v :: C, h => by
    have e : ev_ln cs (C.length + 1) = (if cs C.length < 10004 then ev_ln cs C.length + 1 else if cs C.length = 10004 then ev_ln cs C.length else if 2 ≤ ev_ln cs C.length then ev_ln cs C.length - 1 else ev_ln cs C.length) := rfl
    show ev_ln cs (C.length + 1) = eh1 v (eh C)
    rw [e, ev_in_top h, ev_eh (ev_in_tail h)]
    rfl
theorem ev_eg {cs : Nat → Int32} {b : Nat} : ∀ {C : List Int32}, ev_in cs C → eg b C → (∀ i, i ≤ C.length → ev_ln cs i ≤ b) ∧ ∀ i, i < C.length → (10004 ≤ cs i → 1 ≤ ev_ln cs i) ∧ (10005 ≤ cs i → 2 ≤ ev_ln cs i)
  | [], _, _ => ⟨fun i hi => by rw [show i = 0 from Nat.le_zero.mp hi]; exact Nat.zero_le _, fun i hi => absurd hi (Nat.not_lt_zero _)⟩
  | v :: C, h, g => by
    obtain ⟨g1, g2, g3, g4⟩ := g
    have ih := ev_eg (ev_in_tail h) g1
    have e1 := ev_eh h
    have e2 := ev_eh (ev_in_tail h)
    refine ⟨fun i hi => ?_, fun i hi => ?_⟩
    · by_cases hc : i = C.length + 1
      · rw [hc, show ev_ln cs (C.length + 1) = eh (v :: C) from e1]; exact g2
      · exact ih.1 i (by have : i ≤ C.length + 1 := hi; omega)
    · by_cases hc : i = C.length
      · rw [hc, ev_in_top h, e2]; exact ⟨g3, g4⟩
      · exact ih.2 i (by have : i < C.length + 1 := hi; omega)
end HNheights
