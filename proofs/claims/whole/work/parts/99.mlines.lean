section HNmlines
variable {I I' : Nat → Nat → Int32} {J J' : Nat → Nat → Int64} {R R' : Nat → Nat → Option Nat}
/-! the table with one more name -/
theorem hs_Jt_k {nj : Nat → Int64} {ofs : Nat → Int32} {m kn pn v : Nat} {nm pm : Nat → Nat} (h : hs_Jt nj ofs m kn nm pn pm) : hs_Jt (va_up nj m (nJ (cv v))) (va_up ofs m (nI kn)) (m + 1) (kn + 1) (upN nm kn v) pn pm := by
  obtain ⟨h1, h2, h3, h4⟩ := h
  have un : ∀ i, i < kn → upN nm kn v i = nm i := fun i hi => if_neg (by omega)
  have uk : upN nm kn v kn = v := if_pos rfl
  refine ⟨by omega, fun j hj => ?_, fun i hi => ?_, fun p hp => ?_⟩
  · by_cases hjm : j = m
    · rw [va_up, va_up, if_pos hjm, if_pos hjm]
      exact Or.inl ⟨kn, by omega, by rw [uk], rfl⟩
    · rw [va_up, va_up, if_neg hjm, if_neg hjm]
      rcases h2 j (by omega) with ⟨i, hi, e1, e2⟩ | ⟨p, hp, e1, e2⟩
      · exact Or.inl ⟨i, by omega, by rw [un i hi]; exact e1, e2⟩
      · exact Or.inr ⟨p, hp, e1, e2⟩
  · by_cases hik : i = kn
    · exact ⟨m, by omega, by rw [va_up, if_pos rfl, hik, uk]⟩
    · obtain ⟨j, hj, e⟩ := h3 i (by omega)
      exact ⟨j, by omega, by rw [va_up, if_neg (by omega), un i (by omega)]; exact e⟩
  · obtain ⟨j, hj, e⟩ := h4 p hp
    exact ⟨j, by omega, by rw [va_up, if_neg (by omega)]; exact e⟩
theorem hs_Jt_p {nj : Nat → Int64} {ofs : Nat → Int32} {m kn pn v : Nat} {nm pm : Nat → Nat} (h : hs_Jt nj ofs m kn nm pn pm) : hs_Jt (va_up nj m (nJ (cv v))) (va_up ofs m (nI (20 + pn))) (m + 1) kn nm (pn + 1) (upN pm pn v) := by
  obtain ⟨h1, h2, h3, h4⟩ := h
  have un : ∀ i, i < pn → upN pm pn v i = pm i := fun i hi => if_neg (by omega)
  have uk : upN pm pn v pn = v := if_pos rfl
  refine ⟨by omega, fun j hj => ?_, fun i hi => ?_, fun p hp => ?_⟩
  · by_cases hjm : j = m
    · rw [va_up, va_up, if_pos hjm, if_pos hjm]
      exact Or.inr ⟨pn, by omega, by rw [uk], rfl⟩
    · rw [va_up, va_up, if_neg hjm, if_neg hjm]
      rcases h2 j (by omega) with ⟨i, hi, e1, e2⟩ | ⟨p, hp, e1, e2⟩
      · exact Or.inl ⟨i, hi, e1, e2⟩
      · exact Or.inr ⟨p, by omega, by rw [un p hp]; exact e1, e2⟩
  · obtain ⟨j, hj, e⟩ := h3 i hi
    exact ⟨j, by omega, by rw [va_up, if_neg (by omega)]; exact e⟩
  · by_cases hik : p = pn
    · exact ⟨m, by omega, by rw [va_up, if_pos rfl, hik, uk]⟩
    · obtain ⟨j, hj, e⟩ := h4 p (by omega)
      exact ⟨j, by omega, by rw [va_up, if_neg (by omega), un p (by omega)]; exact e⟩
theorem hs_Jw_k {kn pn v : Nat} {nm pm : Nat → Nat} (h : hs_Jw kn nm pn pm) (h8 : kn < 8) (hv : v < 27 ^ 8) (n1 : nfd nm v kn = none) (n2 : nfd pm v pn = none) : hs_Jw (kn + 1) (upN nm kn v) pn pm := by
  obtain ⟨w1, w2, w3, w4, w5, w6, w7⟩ := h
  have e : ∀ i, upN nm kn v i = if i = kn then v else nm i := fun i => rfl
  refine ⟨by omega, w2, fun i hi => ?_, w4, fun i j hi hj hij => ?_, w6, fun i p hi hp => ?_⟩
  · rw [e]; split
    · exact hv
    · exact w3 i (by omega)
  · rw [e, e] at hij
    by_cases hik : i = kn
    · by_cases hjk : j = kn
      · omega
      · rw [if_pos hik, if_neg hjk] at hij
        exact absurd hij.symm (nfd_no n1 j (by omega))
    · by_cases hjk : j = kn
      · rw [if_neg hik, if_pos hjk] at hij
        exact absurd hij (nfd_no n1 i (by omega))
      · rw [if_neg hik, if_neg hjk] at hij
        exact w5 i j (by omega) (by omega) hij
  · rw [e]
    split
    · exact fun z => nfd_no n2 p hp z.symm
    · exact w7 i p (by omega) hp
theorem hs_Jw_p {kn pn v : Nat} {nm pm : Nat → Nat} (h : hs_Jw kn nm pn pm) (h4 : pn < 4) (hv : v < 27 ^ 8) (n1 : nfd nm v kn = none) (n2 : nfd pm v pn = none) : hs_Jw kn nm (pn + 1) (upN pm pn v) := by
  obtain ⟨w1, w2, w3, w4, w5, w6, w7⟩ := h
  have e : ∀ i, upN pm pn v i = if i = pn then v else pm i := fun i => rfl
  refine ⟨w1, by omega, w3, fun i hi => ?_, w5, fun i j hi hj hij => ?_, fun i p hi hp => ?_⟩
  · rw [e]; split
    · exact hv
    · exact w4 i (by omega)
  · rw [e, e] at hij
    by_cases hik : i = pn
    · by_cases hjk : j = pn
      · omega
      · rw [if_pos hik, if_neg hjk] at hij
        exact absurd hij.symm (nfd_no n2 j (by omega))
    · by_cases hjk : j = pn
      · rw [if_neg hik, if_pos hjk] at hij
        exact absurd hij (nfd_no n2 i (by omega))
      · rw [if_neg hik, if_neg hjk] at hij
        exact w6 i j (by omega) (by omega) hij
  · rw [e]
    split
    · exact nfd_no n1 i hi
    · exact w7 i p hi (by omega)
/-! one bit more is counted -/
theorem pop_or {x : Int32} {b : Nat} (hx : sp_lt 8 x) (hb : b < 8) (h : ¬ sp_bit x b) : sp_pop (x ||| ((1 : Int32) <<< (nI b &&& 31))) = sp_pop x + 1 := by
  obtain ⟨i, hi, rfl⟩ := hx
  have key : ∀ (i : Fin 256) (b : Fin 8), (nI i.val >>> (nI b.val &&& 31)) &&& 1 = 0 → sp_pop (nI i.val ||| ((1 : Int32) <<< (nI b.val &&& 31))) = sp_pop (nI i.val) + 1 := by decide +kernel
  exact key ⟨i, hi⟩ ⟨b, hb⟩ (Classical.not_not.mp h)
theorem sp_up_add {g g' : Nat → Int32} {a : Nat} (hne : ∀ k, k ≠ a → g' k = g k) (ha : g' a = g a + 1) : ∀ m, sp_up (fun k n => n + g' k) 0 m = sp_up (fun k n => n + g k) 0 m + (if a < m then 1 else 0)
  | 0 => rfl
  | m + 1 => by
    have ih := sp_up_add hne ha m
    show sp_up (fun k n => n + g' k) 0 m + g' m = sp_up (fun k n => n + g k) 0 m + g m + (if a < m + 1 then 1 else 0)
    rw [ih]
    by_cases hm : m = a
    · rw [hm, ha, if_neg (Nat.lt_irrefl a), if_pos (Nat.lt_succ_self a), Int32.add_zero, Int32.add_assoc]
    · rw [hne m hm]
      by_cases hl : a < m
      · rw [if_pos hl, if_pos (by omega), Int32.add_assoc, Int32.add_comm 1, ← Int32.add_assoc]
      · rw [if_neg hl, if_neg (by omega), Int32.add_zero, Int32.add_zero]
theorem cnt_or {g : Nat → Int32} {a b : Nat} (ha : a < 8) (hx : sp_lt 8 (g a)) (hb : b < 8) (h : ¬ sp_bit (g a) b) : sp_cnt (va_up g a (g a ||| ((1 : Int32) <<< (nI b &&& 31)))) = sp_cnt g + 1 := by
  have := sp_up_add (g := fun k => sp_pop (g k)) (g' := fun k => sp_pop (va_up g a (g a ||| ((1 : Int32) <<< (nI b &&& 31))) k)) (a := a) (fun k hk => by show sp_pop (va_up g a _ k) = sp_pop (g k); rw [va_up, if_neg hk]) (by show sp_pop (va_up g a _ a) = sp_pop (g a) + 1; rw [va_up, if_pos rfl]; exact pop_or hx hb h) 8
  rw [if_pos ha] at this
  exact this
/-! the reference holds what is told -/
def hs_Cl (I : Nat → Nat → Int32) (L : Option (List Int32)) : Prop := match L with
  | none => I 194 64 = -1 ∧ hs_Cm I []
  | some C => I 194 64 = 0 ∧ I 188 13 = nI (C.length + 1) ∧ (∀ i, i < C.length → mc_rel (I 195 (1100 + i)) (I 196 (1100 + i)) (C.getD (C.length - 1 - i) 0)) ∧ I 195 (1100 + C.length) = 0 ∧ C.length ≤ 1000
def hs_Bm (I : Nat → Nat → Int32) (J : Nat → Nat → Int64) (B : sp_B) : Prop := I 194 60 = nI (bK B) ∧ (∃ c, c ≤ 16 ∧ I 194 61 = nI c ∧ sp_cnt (bSt B) = nI c) ∧ (∃ c, c ≤ 12 ∧ I 194 62 = nI c ∧ sp_cnt (bAg B) = nI c) ∧ I 194 63 = nI (bP B) ∧ (∀ k, k < bK B → I 194 (65 + 4 * k) = nI (bKd B k) ∧ I 194 (66 + 4 * k) = nI (bHd B k)) ∧ (∀ k, k < 8 → I 194 (67 + 4 * k) = bSt B k ∧ I 194 (68 + 4 * k) = bAg B k) ∧ (∀ p, p < bP B → I 194 (100 + 2 * p) = nI (bWl B p) ∧ I 194 (101 + 2 * p) = nI (bPl B p)) ∧ hs_Jt (J 198) (I 200) (bK B + bP B) (bK B) (bNm B) (bP B) (bPm B) ∧ I 188 19 = nI (bK B + bP B) ∧ hs_Cl I (bL B)
def hs_Bc (B : sp_B) : Prop := match bL B with
  | none => True
  | some C => eg 64 C ∧ eh C = 1
def hs_Bq (B : sp_B) : Prop := hs_Bw B ∧ hs_Jw (bK B) (bNm B) (bP B) (bPm B) ∧ hs_Bc B
theorem hs_Bm_0 (h194 : ∀ j, j < 60 → I 194 (60 + j) = if j = 4 then -1 else 0) (h13 : I 188 13 = 0) (h19 : I 188 19 = 0) : hs_Bm I J b_0 ∧ hs_Bq b_0 := by
  have z : ∀ j, j < 60 → j ≠ 4 → I 194 (60 + j) = 0 := fun j hj h4 => by rw [h194 j hj, if_neg h4]
  refine ⟨⟨z 0 (by omega) (by omega), ⟨0, by omega, z 1 (by omega) (by omega), by decide +kernel⟩, ⟨0, by omega, z 2 (by omega) (by omega), by decide +kernel⟩, z 3 (by omega) (by omega), fun k hk => absurd hk (Nat.not_lt_zero _), fun k hk => ⟨by have := z (7 + 4 * k) (by omega) (by omega); rw [show 67 + 4 * k = 60 + (7 + 4 * k) by omega]; exact this, by have := z (8 + 4 * k) (by omega) (by omega); rw [show 68 + 4 * k = 60 + (8 + 4 * k) by omega]; exact this⟩, fun p hp => absurd hp (Nat.not_lt_zero _), ⟨rfl, fun j hj => absurd hj (Nat.not_lt_zero _), fun i hi => absurd hi (Nat.not_lt_zero _), fun i hi => absurd hi (Nat.not_lt_zero _)⟩, h19, by have := h194 4 (by omega); rw [if_pos rfl] at this; exact this, h13, fun i hi => absurd hi (Nat.not_lt_zero _)⟩, ?_, ?_, trivial⟩
  · exact ⟨fun k hk => absurd hk (Nat.not_lt_zero _), fun _ _ => rfl, fun k _ => sp_bit_z, fun k hk => absurd hk (Nat.not_lt_zero _), fun _ _ => rfl, fun p hp => absurd hp (Nat.not_lt_zero _), fun k hk => absurd hk (Nat.not_lt_zero _), by show 0 ≤ 8; omega, by show 0 ≤ 4; omega⟩
  · exact ⟨by show 0 ≤ 8; omega, by show 0 ≤ 4; omega, fun i hi => absurd hi (Nat.not_lt_zero _), fun i hi => absurd hi (Nat.not_lt_zero _), fun i j hi => absurd hi (Nat.not_lt_zero _), fun i j hi => absurd hi (Nat.not_lt_zero _), fun i p hi => absurd hi (Nat.not_lt_zero _)⟩
theorem hs_Cl_c {L : Option (List Int32)} (h : hs_Cl I L) (g64 : I' 194 64 = I 194 64) (g13 : I' 188 13 = I 188 13) (g5 : I' 195 = I 195) (g6 : I' 196 = I 196) : hs_Cl I' L := by
  cases L with
  | none =>
    unfold hs_Cl hs_Cm at h ⊢
    simp only [] at h ⊢
    rw [g64, g13, g5, g6]
    exact h
  | some C =>
    unfold hs_Cl at h ⊢
    simp only [] at h ⊢
    rw [g64, g13, g5, g6]
    exact h
theorem hs_Bm_f {B : sp_B} (h : hs_Bm I J B) (g : hs_mf I I') : hs_Bm I' J B := by
  obtain ⟨h1, h2, h3, h4, h5, h6, h7, h8, h9, h10⟩ := h
  have e := g.1 194 (by omega)
  unfold hs_Bm
  rw [e, g.1 200 (by omega), g.2 19 (by omega) (by omega)]
  exact ⟨h1, h2, h3, h4, h5, h6, h7, h8, h9, hs_Cl_c h10 (by rw [e]) (g.2 13 (by omega) (by omega)) (g.1 195 (by omega)) (g.1 196 (by omega))⟩
/-- a knot -/
theorem hs_Bm_k {B : sp_B} {v kd hd : Nat} (h : hs_Bm I J B) (h8 : bK B < 8) (e194 : I' 194 = va_up (va_up (va_up (I 194) 60 (nI (bK B + 1))) (65 + 4 * bK B) (nI kd)) (66 + 4 * bK B) (nI hd)) (e200 : I' 200 = va_up (I 200) (bK B + bP B) (nI (bK B))) (e198 : J' 198 = va_up (J 198) (bK B + bP B) (nJ (cv v))) (e19 : I' 188 19 = nI (bK B + bP B + 1)) (g13 : I' 188 13 = I 188 13) (g5 : I' 195 = I 195) (g6 : I' 196 = I 196) : hs_Bm I' J' (b_k B v kd hd) := by
  obtain ⟨h1, h2, h3, h4, h5, h6, h7, hj, h9, h10⟩ := h
  have e : ∀ j, I' 194 j = if j = 66 + 4 * bK B then nI hd else if j = 65 + 4 * bK B then nI kd else if j = 60 then nI (bK B + 1) else I 194 j := fun j => by rw [e194]; rfl
  have o : ∀ j, j ≠ 60 → j ≠ 65 + 4 * bK B → j ≠ 66 + 4 * bK B → I' 194 j = I 194 j := fun j j1 j2 j3 => by rw [e, if_neg j3, if_neg j2, if_neg j1]
  have hj := hs_Jt_k (v := v) hj
  rw [← e200, ← e198, show bK B + bP B + 1 = bK B + 1 + bP B by omega] at hj
  refine ⟨by rw [e, if_neg (by omega), if_neg (by omega), if_pos rfl]; rfl, ?_, ?_, by rw [o 63 (by omega) (by omega) (by omega)]; exact h4, fun k hk => ?_, fun k hk => ?_, fun p hp => ?_, hj, by rw [e19]; show nI (bK B + bP B + 1) = nI (bK B + 1 + bP B); rw [show bK B + bP B + 1 = bK B + 1 + bP B by omega], hs_Cl_c h10 (o 64 (by omega) (by omega) (by omega)) g13 g5 g6⟩
  · rw [o 61 (by omega) (by omega) (by omega)]; exact h2
  · rw [o 62 (by omega) (by omega) (by omega)]; exact h3
  · have hk : k < bK B + 1 := hk
    show I' 194 (65 + 4 * k) = nI (if k = bK B then kd else bKd B k) ∧ I' 194 (66 + 4 * k) = nI (if k = bK B then hd else bHd B k)
    by_cases hkk : k = bK B
    · rw [if_pos hkk, if_pos hkk, e, e, if_neg (by omega), if_pos (by omega), if_pos (by omega)]
      exact ⟨rfl, rfl⟩
    · rw [if_neg hkk, if_neg hkk, o _ (by omega) (by omega) (by omega), o _ (by omega) (by omega) (by omega)]
      exact h5 k (by omega)
  · rw [o _ (by omega) (by omega) (by omega), o _ (by omega) (by omega) (by omega)]
    exact h6 k hk
  · rw [o _ (by omega) (by omega) (by omega), o _ (by omega) (by omega) (by omega)]
    exact h7 p hp
/-- a person -/
theorem hs_Bm_p {B : sp_B} {v wl pl : Nat} (h : hs_Bm I J B) (h8 : bK B ≤ 8) (h4' : bP B < 4) (e194 : I' 194 = va_up (va_up (va_up (I 194) 63 (nI (bP B + 1))) (100 + 2 * bP B) (nI wl)) (101 + 2 * bP B) (nI pl)) (e200 : I' 200 = va_up (I 200) (bK B + bP B) (nI (20 + bP B))) (e198 : J' 198 = va_up (J 198) (bK B + bP B) (nJ (cv v))) (e19 : I' 188 19 = nI (bK B + bP B + 1)) (g13 : I' 188 13 = I 188 13) (g5 : I' 195 = I 195) (g6 : I' 196 = I 196) : hs_Bm I' J' (b_p B v wl pl) := by
  obtain ⟨h1, h2, h3, h4, h5, h6, h7, hj, h9, h10⟩ := h
  have e : ∀ j, I' 194 j = if j = 101 + 2 * bP B then nI pl else if j = 100 + 2 * bP B then nI wl else if j = 63 then nI (bP B + 1) else I 194 j := fun j => by rw [e194]; rfl
  have o : ∀ j, j ≠ 63 → j ≠ 100 + 2 * bP B → j ≠ 101 + 2 * bP B → I' 194 j = I 194 j := fun j j1 j2 j3 => by rw [e, if_neg j3, if_neg j2, if_neg j1]
  have hj := hs_Jt_p (v := v) hj
  rw [← e200, ← e198] at hj
  refine ⟨by rw [o 60 (by omega) (by omega) (by omega)]; exact h1, ?_, ?_, by rw [e, if_neg (by omega), if_neg (by omega), if_pos rfl]; rfl, fun k hk => ?_, fun k hk => ?_, fun p hp => ?_, hj, e19, hs_Cl_c h10 (o 64 (by omega) (by omega) (by omega)) g13 g5 g6⟩
  · rw [o 61 (by omega) (by omega) (by omega)]; exact h2
  · rw [o 62 (by omega) (by omega) (by omega)]; exact h3
  · have hk : k < bK B := hk
    rw [o _ (by omega) (by omega) (by omega), o _ (by omega) (by omega) (by omega)]
    exact h5 k hk
  · rw [o _ (by omega) (by omega) (by omega), o _ (by omega) (by omega) (by omega)]
    exact h6 k hk
  · have hp : p < bP B + 1 := hp
    show I' 194 (100 + 2 * p) = nI (if p = bP B then wl else bWl B p) ∧ I' 194 (101 + 2 * p) = nI (if p = bP B then pl else bPl B p)
    by_cases hkk : p = bP B
    · rw [if_pos hkk, if_pos hkk, e, e, if_neg (by omega), if_pos (by omega), if_pos (by omega)]
      exact ⟨rfl, rfl⟩
    · rw [if_neg hkk, if_neg hkk, o _ (by omega) (by omega) (by omega), o _ (by omega) (by omega) (by omega)]
      exact h7 p (by omega)
/-- a pair -/
theorem hs_Bm_s {B : sp_B} {a b c : Nat} (h : hs_Bm I J B) (ha : a < 8) (hc : sp_cnt (bSt B) = nI c) (hc16 : c < 16) (hcn : sp_cnt (va_up (bSt B) a (bSt B a ||| ((1 : Int32) <<< (nI b &&& 31)))) = nI (c + 1)) (e194 : I' 194 = va_up (va_up (I 194) (67 + 4 * a) (bSt B a ||| ((1 : Int32) <<< (nI b &&& 31)))) 61 (nI (c + 1))) (eb : ∀ b, b ≠ 188 → b ≠ 194 → I' b = I b) (g13 : I' 188 13 = I 188 13) (g19 : I' 188 19 = I 188 19) : hs_Bm I' J (b_s B a b) := by
  obtain ⟨h1, h2, h3, h4, h5, h6, h7, hj, h9, h10⟩ := h
  have e : ∀ j, I' 194 j = if j = 61 then nI (c + 1) else if j = 67 + 4 * a then bSt B a ||| ((1 : Int32) <<< (nI b &&& 31)) else I 194 j := fun j => by rw [e194]; rfl
  have o : ∀ j, j ≠ 61 → j ≠ 67 + 4 * a → I' 194 j = I 194 j := fun j j1 j2 => by rw [e, if_neg j1, if_neg j2]
  refine ⟨by rw [o 60 (by omega) (by omega)]; exact h1, ⟨c + 1, by omega, by rw [e, if_pos rfl], hcn⟩, by rw [o 62 (by omega) (by omega)]; exact h3, by rw [o 63 (by omega) (by omega)]; exact h4, fun k hk => ?_, fun k hk => ?_, fun p hp => ?_, by rw [eb 200 (by omega) (by omega)]; exact hj, by rw [g19]; exact h9, hs_Cl_c h10 (o 64 (by omega) (by omega)) g13 (eb 195 (by omega) (by omega)) (eb 196 (by omega) (by omega))⟩
  · rw [o _ (by omega) (by omega), o _ (by omega) (by omega)]; exact h5 k hk
  · show I' 194 (67 + 4 * k) = va_up (bSt B) a (bSt B a ||| ((1 : Int32) <<< (nI b &&& 31))) k ∧ I' 194 (68 + 4 * k) = bAg B k
    rw [o (68 + 4 * k) (by omega) (by omega), va_up]
    refine ⟨?_, (h6 k hk).2⟩
    by_cases hk2 : k = a
    · rw [if_pos hk2, e, if_neg (by omega), if_pos (by omega)]
    · rw [if_neg hk2, o _ (by omega) (by omega)]; exact (h6 k hk).1
  · rw [o _ (by omega) (by omega), o _ (by omega) (by omega)]; exact h7 p hp
theorem hs_Bm_a {B : sp_B} {a b c : Nat} (h : hs_Bm I J B) (ha : a < 8) (hc : sp_cnt (bAg B) = nI c) (hc16 : c < 12) (hcn : sp_cnt (va_up (bAg B) a (bAg B a ||| ((1 : Int32) <<< (nI b &&& 31)))) = nI (c + 1)) (e194 : I' 194 = va_up (va_up (I 194) (68 + 4 * a) (bAg B a ||| ((1 : Int32) <<< (nI b &&& 31)))) 62 (nI (c + 1))) (eb : ∀ b, b ≠ 188 → b ≠ 194 → I' b = I b) (g13 : I' 188 13 = I 188 13) (g19 : I' 188 19 = I 188 19) : hs_Bm I' J (b_a B a b) := by
  obtain ⟨h1, h2, h3, h4, h5, h6, h7, hj, h9, h10⟩ := h
  have e : ∀ j, I' 194 j = if j = 62 then nI (c + 1) else if j = 68 + 4 * a then bAg B a ||| ((1 : Int32) <<< (nI b &&& 31)) else I 194 j := fun j => by rw [e194]; rfl
  have o : ∀ j, j ≠ 62 → j ≠ 68 + 4 * a → I' 194 j = I 194 j := fun j j1 j2 => by rw [e, if_neg j1, if_neg j2]
  refine ⟨by rw [o 60 (by omega) (by omega)]; exact h1, by rw [o 61 (by omega) (by omega)]; exact h2, ⟨c + 1, by omega, by rw [e, if_pos rfl], hcn⟩, by rw [o 63 (by omega) (by omega)]; exact h4, fun k hk => ?_, fun k hk => ?_, fun p hp => ?_, by rw [eb 200 (by omega) (by omega)]; exact hj, by rw [g19]; exact h9, hs_Cl_c h10 (o 64 (by omega) (by omega)) g13 (eb 195 (by omega) (by omega)) (eb 196 (by omega) (by omega))⟩
  · rw [o _ (by omega) (by omega), o _ (by omega) (by omega)]; exact h5 k hk
  · show I' 194 (67 + 4 * k) = bSt B k ∧ I' 194 (68 + 4 * k) = va_up (bAg B) a (bAg B a ||| ((1 : Int32) <<< (nI b &&& 31))) k
    rw [o (67 + 4 * k) (by omega) (by omega), va_up]
    refine ⟨(h6 k hk).1, ?_⟩
    by_cases hk2 : k = a
    · rw [if_pos hk2, e, if_neg (by omega), if_pos (by omega)]
    · rw [if_neg hk2, o _ (by omega) (by omega)]; exact (h6 k hk).2
  · rw [o _ (by omega) (by omega), o _ (by omega) (by omega)]; exact h7 p hp
end HNmlines
