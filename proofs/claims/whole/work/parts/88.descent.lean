section HNdescent
/-! the law's reading by descent: fault's kind, token, code -/
abbrev mst : Type := Nat × Nat × List Int32
def e_m (v : Int32) (s : mst) : mst := (s.1, s.2.1, v :: s.2.2)
def lpq (T : Nat → tk) (sub : mst → mst) (q : Nat) : Nat → mst → mst
  | 0, s => s
  | m + 1, s => if s.1 = 0 ∧ lu_rk (lu_op (T s.2.1)) = q then lpq T sub q m (e_m (lu_op (T s.2.1)) (sub (0, s.2.1 + 1, s.2.2))) else s
def m_prod (T : Nat → tk) (sub : mst → mst) (s : mst) : mst := lpq T sub 4 1001 (sub s)
def m_sums (T : Nat → tk) (sub : mst → mst) (s : mst) : mst := lpq T (m_prod T sub) 3 1001 (m_prod T sub s)
def m_test (T : Nat → tk) (sub : mst → mst) (s : mst) : mst := lpq T (m_sums T sub) 2 1 (m_sums T sub s)
def m_form (T : Nat → tk) (sub : mst → mst) (s : mst) : mst := lpq T (m_test T sub) 1 1001 (m_test T sub s)
def t_cl (T : Nat → tk) (s : mst) : mst := if s.1 = 0 then (if p_isS (T s.2.1) 41 then (0, s.2.1 + 1, s.2.2) else (1, s.2)) else s
def m_part (T : Nat → tk) : Nat → mst → mst
  | 0 => fun s => if ¬ s.1 = 0 then s else if pt (T s.2.1) = -1 then (1, s.2) else (5, s.2)
  | L + 1 => fun s => if ¬ s.1 = 0 then s else if pt (T s.2.1) = -1 then (1, s.2) else if pt (T s.2.1) = 10004 then e_m 10004 (m_part T L (0, s.2.1 + 1, s.2.2)) else if pt (T s.2.1) = 10012 then t_cl T (m_form T (m_part T L) (0, s.2.1 + 1, s.2.2)) else (0, s.2.1 + 1, pt (T s.2.1) :: s.2.2)
/-! the pile: how many levels -/
def mk : List Int32 → Nat
  | [] => 0
  | y :: W => mk W + (if y = 10004 ∨ y = 10012 then 1 else 0)
def mo : List Int32 → Nat
  | [] => 0
  | y :: W => mo W + (if y = 10012 then 1 else 0)
theorem mo_mk : ∀ W, mo W ≤ mk W
  | [] => Nat.le_refl _
  | y :: W => by
    have := mo_mk W
    show mo W + (if y = 10012 then 1 else 0) ≤ mk W + (if y = 10004 ∨ y = 10012 then 1 else 0)
    by_cases h : y = 10012
    · rw [if_pos h, if_pos (Or.inr h)]; omega
    · rw [if_neg h]; omega
abbrev lS (W C : List Int32) : lst := (W, nI (mk W), nI (mo W), C)
def lNs (W C : List Int32) : lst := ((st_n W (nI (mk W)) C).1, (st_n W (nI (mk W)) C).2.1, nI (mo W), (st_n W (nI (mk W)) C).2.2)
theorem rk_1 {y : Int32} (h : 1 ≤ lu_rk y) : ¬ y = 10004 ∧ ¬ y = 10012 := by
  refine ⟨fun z => ?_, fun z => ?_⟩
  · rw [z, show lu_rk 10004 = 0 by decide] at h; omega
  · rw [z, show lu_rk 10012 = 0 by decide] at h; omega
theorem mk_rk {y : Int32} {W : List Int32} (h : 1 ≤ lu_rk y) : mk (y :: W) = mk W ∧ mo (y :: W) = mo W := by
  have h2 := rk_1 h
  refine ⟨?_, ?_⟩
  · show mk W + (if y = 10004 ∨ y = 10012 then 1 else 0) = mk W
    rw [if_neg (fun z => z.elim h2.1 h2.2)]
    rfl
  · show mo W + (if y = 10012 then 1 else 0) = mo W
    rw [if_neg h2.2]
    rfl
theorem mk_ap : ∀ {P W : List Int32}, (∀ y, y ∈ P → 1 ≤ lu_rk y) → mk (P ++ W) = mk W ∧ mo (P ++ W) = mo W
  | [], _, _ => ⟨rfl, rfl⟩
  | y :: P, W, h => by
    have h1 := mk_rk (W := P ++ W) (h y (List.mem_cons_self ..))
    have h2 := mk_ap (W := W) (fun z hz => h z (List.mem_cons_of_mem _ hz))
    exact ⟨h1.1.trans h2.1, h1.2.trans h2.2⟩
theorem st_s_0 {r : Nat} {W C : List Int32} (h : ¬ r ≤ lu_rk (W.headD 0)) : st_s r W C = (W, C) := by
  cases W with
  | nil => rfl
  | cons y W => exact if_neg h
theorem st_s_ap {r : Nat} : ∀ {P W C : List Int32}, (∀ y, y ∈ P → r ≤ lu_rk y) → ¬ r ≤ lu_rk (W.headD 0) → P.length + C.length ≤ 1000 → st_s r (P ++ W) C = (W, P.reverse ++ C)
  | [], W, C, _, hW, _ => st_s_0 hW
  | y :: P, W, C, h, hW, hl => by
    have hl : P.length + 1 + C.length ≤ 1000 := hl
    have e : lu_em y C = y :: C := if_pos (by omega)
    have h1 : st_s r ((y :: P) ++ W) C = st_s r (P ++ W) (lu_em y C) := if_pos (h y (List.mem_cons_self ..))
    rw [h1, e, st_s_ap (fun z hz => h z (List.mem_cons_of_mem _ hz)) hW (by show P.length + (C.length + 1) ≤ 1000; omega), List.reverse_cons, List.append_assoc]
    rfl
theorem st_s_1 {r : Nat} : ∀ {P W C : List Int32}, (∀ y, y ∈ P → r ≤ lu_rk y) → ¬ r ≤ lu_rk (W.headD 0) → (st_s r (P ++ W) C).1 = W
  | [], W, C, _, hW => by rw [show ([] : List Int32) ++ W = W from rfl, st_s_0 hW]
  | y :: P, W, C, h, hW => by
    have h1 : st_s r ((y :: P) ++ W) C = st_s r (P ++ W) (lu_em y C) := if_pos (h y (List.mem_cons_self ..))
    rw [h1]
    exact st_s_1 (fun z hz => h z (List.mem_cons_of_mem _ hz)) hW
theorem lNs_0 {W C : List Int32} (h : ¬ W.headD 0 = 10004) : lNs W C = lS W C := by
  cases W with
  | nil => rfl
  | cons y W =>
    have e : st_n (y :: W) (nI (mk (y :: W))) C = (y :: W, nI (mk (y :: W)), C) := if_neg h
    unfold lNs
    rw [e]
theorem lNs_1 {W C : List Int32} (h : C.length < 1000) : lNs (10004 :: W) C = lNs W (10004 :: C) := by
  have e1 : mk (10004 :: W) = mk W + 1 := rfl
  have e2 : mo (10004 :: W) = mo W := rfl
  have e3 : nI (mk W + 1) - 1 = nI (mk W) := by rw [nI_succ, Int32.add_sub_cancel]
  have e : st_n (10004 :: W) (nI (mk (10004 :: W))) C = st_n W (nI (mk W)) (10004 :: C) := by
    have e0 : st_n (10004 :: W) (nI (mk (10004 :: W))) C = st_n W (nI (mk (10004 :: W)) - 1) (lu_em 10004 C) := if_pos rfl
    rw [e0, e1, e3, show lu_em 10004 C = 10004 :: C from if_pos h]
  unfold lNs
  rw [e, e2]
/-! tokens -/
theorem pt_0 {x : tk} (h : x.1 = 0) : pt x = -1 := by
  have w : wx x = 0 := if_neg (by omega)
  unfold pt
  rw [if_neg (by omega), if_neg (fun z => by have := z.1; omega), w]
  exact if_neg (by decide)
theorem lu_op_0 {x : tk} (h : x.1 = 0) : lu_op x = -1 := by
  have w : wx x = 0 := if_neg (by omega)
  have n : ∀ c, ¬ p_isS x c := fun c z => by have := z.1; omega
  unfold lu_op
  rw [if_neg (by omega), if_neg (n _), if_neg (n _), if_neg (n _), if_neg (n _), if_neg (n _)]
theorem lu_op_s {x : tk} {c : Nat} (h : p_isS x c) (hc : c = 59 ∨ c = 41) : lu_op x = -1 := by
  have h1 := h.1
  have h2 := h.2
  have w : wx x = 0 := if_neg (by omega)
  have n : ∀ d, ¬ d = c → ¬ p_isS x d := fun d hd z => by have := z.2; omega
  unfold lu_op
  rw [if_neg (by omega), if_neg (n _ (by omega)), if_neg (n _ (by omega)), if_neg (n _ (by omega)), if_neg (n _ (by omega)), if_neg (n _ (by omega))]
theorem lu_op_r {x : tk} (h : lu_rk (lu_op x) = 0) : lu_op x = -1 := by
  unfold lu_op at h ⊢
  by_cases h1 : wx x = 20 ∨ wx x = 21
  · rw [if_pos h1] at h
    rcases h1 with h1 | h1
    · rw [h1] at h; exact absurd h (by decide)
    · rw [h1] at h; exact absurd h (by decide)
  · rw [if_neg h1] at h ⊢
    by_cases h2 : p_isS x 60
    · rw [if_pos h2] at h; exact absurd h (by decide)
    rw [if_neg h2] at h ⊢
    by_cases h3 : p_isS x 61
    · rw [if_pos h3] at h; exact absurd h (by decide)
    rw [if_neg h3] at h ⊢
    by_cases h4 : p_isS x 43
    · rw [if_pos h4] at h; exact absurd h (by decide)
    rw [if_neg h4] at h ⊢
    by_cases h5 : p_isS x 45
    · rw [if_pos h5] at h; exact absurd h (by decide)
    rw [if_neg h5] at h ⊢
    by_cases h6 : p_isS x 42
    · rw [if_pos h6] at h; exact absurd h (by decide)
    rw [if_neg h6]
/-! both readings, piece by piece -/
def tE (T : Nat → tk) (E : Nat) : Prop := E ≤ 1000 ∧ ∀ k, E ≤ k → (T k).1 = 0
def oF (T : Nat → tk) (k : Nat) (A : lst) (e k' : Nat) : Prop := ∃ j s', k' = k + j ∧ ∀ m, l_rd T (m + j + 1) k true A = (e, k', s')
def oK (T : Nat → tk) (k : Nat) (A : lst) (k' : Nat) (B : lst) : Prop := ∃ j, k' = k + j + 1 ∧ ∀ m, l_rd T (m + j + 1) k true A = l_rd T m k' false B
def stp (T : Nat → tk) (r : Nat) (V C : List Int32) (k : Nat) : Prop := lu_rk (lu_op (T k)) < r ∨ (lu_rk (lu_op (T k)) = 2 ∧ tp2 (st_s 3 V C).1)
def cP (T : Nat → tk) (E L : Nat) (sub : mst → mst) : Prop := ∀ (W C : List Int32) (k : Nat), mk W + L = 5 → W.length ≤ 5 * mk W + 4 → C.length + W.length ≤ k → (¬ (sub (0, k, C)).1 = 0 → oF T k (lS W C) (sub (0, k, C)).1 (sub (0, k, C)).2.1) ∧ ((sub (0, k, C)).1 = 0 → oK T k (lS W C) (sub (0, k, C)).2.1 (lNs W (sub (0, k, C)).2.2) ∧ (sub (0, k, C)).2.2.length + W.length ≤ (sub (0, k, C)).2.1 ∧ (sub (0, k, C)).2.1 ≤ E)
/-- read up to here: what waits above the pile, what is emitted -/
def oG (T : Nat → tk) (E r k0 : Nat) (A : lst) (W : List Int32) (x : mst) (P C1 : List Int32) : Prop := (∀ y, y ∈ P → r ≤ lu_rk y) ∧ x.2.2 = P.reverse ++ C1 ∧ oK T k0 A x.2.1 (lS (P ++ W) C1) ∧ x.2.2.length + W.length ≤ x.2.1 ∧ x.2.1 ≤ E
def cG (T : Nat → tk) (E L r : Nat) (sub : mst → mst) : Prop := ∀ (W C : List Int32) (k : Nat), mk W + L = 5 → W.length + 1 ≤ 5 * mk W + r → lu_rk (W.headD 0) < r → ¬ W.headD 0 = 10004 → C.length + W.length ≤ k → (¬ (sub (0, k, C)).1 = 0 → oF T k (lS W C) (sub (0, k, C)).1 (sub (0, k, C)).2.1) ∧ ((sub (0, k, C)).1 = 0 → ∃ P C1, oG T E r k (lS W C) W (sub (0, k, C)) P C1 ∧ stp T r (P ++ W) C1 (sub (0, k, C)).2.1)
theorem oK_F {T : Nat → tk} {k k1 k2 e : Nat} {A B : lst} (h : oK T k A k1 B) (g : ∃ j s', k2 = k1 + j ∧ ∀ m, l_rd T (m + j + 1) k1 false B = (e, k2, s')) : oF T k A e k2 := by
  obtain ⟨j, hj, h1⟩ := h
  obtain ⟨i, s', hi, h2⟩ := g
  refine ⟨j + 1 + i, s', by omega, fun m => ?_⟩
  rw [show m + (j + 1 + i) + 1 = (m + i + 1) + j + 1 by omega, h1, h2]
theorem oK_K {T : Nat → tk} {k k1 k2 : Nat} {A B D : lst} (h : oK T k A k1 B) (g : ∃ j, k2 = k1 + j ∧ ∀ m, l_rd T (m + j) k1 false B = l_rd T m k2 false D) : oK T k A k2 D := by
  obtain ⟨j, hj, h1⟩ := h
  obtain ⟨i, hi, h2⟩ := g
  refine ⟨j + i, by omega, fun m => ?_⟩
  rw [show m + (j + i) + 1 = (m + i) + j + 1 by omega, h1, h2]
theorem cG_5 {T : Nat → tk} {E L : Nat} {sub : mst → mst} (h : cP T E L sub) : cG T E L 5 sub := by
  intro W C k h1 h2 h3 h4 h5
  have g := h W C k h1 (by omega) h5
  refine ⟨g.1, fun z => ?_⟩
  obtain ⟨a, b, c⟩ := g.2 z
  rw [lNs_0 h4] at a
  exact ⟨[], (sub (0, k, C)).2.2, ⟨fun y hy => absurd hy (List.not_mem_nil), rfl, a, b, c⟩, Or.inl (by have := lu_rk_le (lu_op (T (sub (0, k, C)).2.1)); omega)⟩
/-- an operator and what stands behind it -/
theorem cG_s {T : Nat → tk} {E L r k0 : Nat} {sub : mst → mst} {A : lst} {W P C1 : List Int32} {x : mst} (hE : tE T E) (h : cG T E L (r + 1) sub) (hr : 1 ≤ r) (w1 : mk W + L = 5) (w2 : W.length + 1 ≤ 5 * mk W + r) (w3 : lu_rk (W.headD 0) < r) (hG : oG T E (if r = 2 then 3 else r) k0 A W x P C1) (hq : lu_rk (lu_op (T x.2.1)) = r) (y : mst) (hy : y = e_m (lu_op (T x.2.1)) (sub (0, x.2.1 + 1, x.2.2))) : (¬ y.1 = 0 → oF T k0 A y.1 y.2.1) ∧ (y.1 = 0 → ∃ P' C1', oG T E r k0 A W y P' C1' ∧ stp T (r + 1) (P' ++ W) C1' y.2.1 ∧ (r = 2 → stp T 2 (P' ++ W) C1' y.2.1) ∧ x.2.1 < y.2.1) := by
  obtain ⟨hP, hx, hK, hl, hle⟩ := hG
  obtain ⟨v, hv⟩ : ∃ v, v = lu_op (T x.2.1) := ⟨_, rfl⟩
  rw [← hv] at hq hy
  have hv1 : ¬ v = -1 := fun z => by rw [z, show lu_rk (-1) = 0 by decide] at hq; omega
  have hkE : x.2.1 < E := Nat.lt_of_not_le (fun z => hv1 (hv.trans (lu_op_0 (hE.2 _ z))))
  have hE1 := hE.1
  have hP1 : ∀ y, y ∈ P → 1 ≤ lu_rk y := fun y hy => by have := hP y hy; split at this <;> omega
  have hmk := mk_ap (W := W) hP1
  have hlen : P.length + C1.length = x.2.2.length := by rw [hx, List.length_append, List.length_reverse]
  have hW : ¬ (if r = 2 then 3 else r) ≤ lu_rk (W.headD 0) := by split <;> omega
  have hs : st_s (if r = 2 then 3 else r) (P ++ W) C1 = (W, x.2.2) := by rw [st_s_ap hP hW (by omega), hx]
  have hmk5 : mk W ≤ 5 := by omega
  have hto : l_to v (lS (P ++ W) C1) := ⟨hv1, fun z => by
    have r2 : r = 2 := hq.symm.trans z.1
    have z2 := z.2
    rw [if_pos r2] at hs
    rw [show (lS (P ++ W) C1).1 = P ++ W from rfl, show (lS (P ++ W) C1).2.2.2 = C1 from rfl, hs] at z2
    have : lu_rk (W.headD 0) = 2 := z2
    omega⟩
  have hto1 : l_to1 v (lS (P ++ W) C1) = lS (v :: W) x.2.2 := by
    have e0 : l_to1 v (lS (P ++ W) C1) = (lu_aw v (st_s (if lu_rk v = 2 then 3 else lu_rk v) (P ++ W) C1).1, nI (mk (P ++ W)), nI (mo (P ++ W)), (st_s (if lu_rk v = 2 then 3 else lu_rk v) (P ++ W) C1).2) := if_neg hv1
    have e1 := mk_rk (y := v) (W := W) (by omega)
    rw [e0, hq, hs, hmk.1, hmk.2]
    show (lu_aw v W, nI (mk W), nI (mo W), x.2.2) = (v :: W, nI (mk (v :: W)), nI (mo (v :: W)), x.2.2)
    rw [e1.1, e1.2, show lu_aw v W = v :: W from if_pos (by have := lu_rk_le v; omega)]
  have stepK : ∀ m, l_rd T (m + 1) x.2.1 false (lS (P ++ W) C1) = l_rd T m (x.2.1 + 1) true (lS (v :: W) x.2.2) := fun m => by
    have n59 : ¬ p_isS (T x.2.1) 59 := fun z => hv1 (hv.trans (lu_op_s z (Or.inl rfl)))
    have n41 : ¬ p_isS (T x.2.1) 41 := fun z => hv1 (hv.trans (lu_op_s z (Or.inr rfl)))
    have e0 : l_rd T (m + 1) x.2.1 false (lS (P ++ W) C1) = (if (lS (P ++ W) C1).2.2.1 = 0 ∧ p_isS (T x.2.1) 59 then (0, x.2.1, (st_s 1 (lS (P ++ W) C1).1 (lS (P ++ W) C1).2.2.2).1, (lS (P ++ W) C1).2.1, (lS (P ++ W) C1).2.2.1, (st_s 1 (lS (P ++ W) C1).1 (lS (P ++ W) C1).2.2.2).2) else if p_isS (T x.2.1) 41 then (if (lS (P ++ W) C1).2.2.1 = 0 then (1, x.2.1, lS (P ++ W) C1) else l_rd T m (x.2.1 + 1) false (l_cl (lS (P ++ W) C1))) else if l_to (lu_op (T x.2.1)) (lS (P ++ W) C1) then l_rd T m (x.2.1 + 1) true (l_to1 (lu_op (T x.2.1)) (lS (P ++ W) C1)) else (1, x.2.1, l_to1 (lu_op (T x.2.1)) (lS (P ++ W) C1))) := rfl
    rw [e0, if_neg (fun z => n59 z.2), if_neg n41, ← hv, if_pos hto, hto1]
  have e1 := mk_rk (y := v) (W := W) (by omega)
  have g := h (v :: W) x.2.2 (x.2.1 + 1) (by rw [e1.1]; exact w1) (by rw [e1.1]; show W.length + 1 + 1 ≤ 5 * mk W + (r + 1); omega) (by show lu_rk v < r + 1; omega) (rk_1 (show 1 ≤ lu_rk v by omega)).1 (by show x.2.2.length + (W.length + 1) ≤ x.2.1 + 1; omega)
  obtain ⟨z, hz⟩ : ∃ z, z = sub (0, x.2.1 + 1, x.2.2) := ⟨_, rfl⟩
  rw [← hz] at g hy
  have y1 : y.1 = z.1 := by rw [hy]; rfl
  have y2 : y.2.1 = z.2.1 := by rw [hy]; rfl
  have y3 : y.2.2 = v :: z.2.2 := by rw [hy]; rfl
  rw [y1, y2]
  refine ⟨fun h0 => ?_, fun h0 => ?_⟩
  · obtain ⟨j, s', hj, hm⟩ := g.1 h0
    refine oK_F hK ⟨j + 1, s', by omega, fun m => ?_⟩
    rw [show m + (j + 1) + 1 = (m + j + 1) + 1 by omega, stepK, hm]
  · obtain ⟨P', C1', ⟨hP', hx', hK', hl', hle'⟩, hst⟩ := g.2 h0
    have ea : (P' ++ [v]) ++ W = P' ++ (v :: W) := by rw [List.append_assoc]; rfl
    have hlt : x.2.1 < y.2.1 := by obtain ⟨j, hj, hm⟩ := hK'; rw [y2]; omega
    refine ⟨P' ++ [v], C1', ⟨fun u hu => ?_, ?_, ?_, ?_, ?_⟩, ?_, fun r2 => ?_, by rw [← y2]; exact hlt⟩
    · rcases List.mem_append.mp hu with hu | hu
      · have := hP' u hu; omega
      · rw [List.mem_singleton.mp hu]; omega
    · rw [y3, hx', List.reverse_append]; rfl
    · obtain ⟨j, hj, hm⟩ := hK'
      rw [ea, y2]
      refine oK_K hK ⟨j + 1 + 1, by omega, fun m => ?_⟩
      rw [show m + (j + 1 + 1) = (m + j + 1) + 1 by omega, stepK, hm]
    · rw [y3, y2]
      have : z.2.2.length + (W.length + 1) ≤ z.2.1 := hl'
      show z.2.2.length + 1 + W.length ≤ z.2.1
      omega
    · rw [y2]; exact hle'
    · rw [ea]; exact hst
    · rw [ea]
      by_cases h2 : lu_rk (lu_op (T z.2.1)) < 2
      · exact Or.inl h2
      · refine Or.inr ⟨?_, ?_⟩
        · rcases hst with hst | hst
          · rw [r2] at hst; omega
          · exact hst.1
        · have : (st_s 3 (P' ++ (v :: W)) C1').1 = v :: W := st_s_1 (fun u hu => by have := hP' u hu; omega) (by show ¬ 3 ≤ lu_rk v; omega)
          show lu_rk ((st_s 3 (P' ++ (v :: W)) C1').1.headD 0) = 2
          rw [this]
          show lu_rk v = 2
          omega
theorem cG_l {T : Nat → tk} {E L r k0 : Nat} {sub : mst → mst} {A : lst} {W : List Int32} (hE : tE T E) (h : cG T E L (r + 1) sub) (hr : 1 ≤ r) (hr2 : ¬ r = 2) (w1 : mk W + L = 5) (w2 : W.length + 1 ≤ 5 * mk W + r) (w3 : lu_rk (W.headD 0) < r) : ∀ (m : Nat) (x : mst), (¬ x.1 = 0 → oF T k0 A x.1 x.2.1) → (x.1 = 0 → (∃ P C1, oG T E r k0 A W x P C1 ∧ stp T (r + 1) (P ++ W) C1 x.2.1) ∧ E < x.2.1 + m) → (¬ (lpq T sub r m x).1 = 0 → oF T k0 A (lpq T sub r m x).1 (lpq T sub r m x).2.1) ∧ ((lpq T sub r m x).1 = 0 → ∃ P C1, oG T E r k0 A W (lpq T sub r m x) P C1 ∧ stp T r (P ++ W) C1 (lpq T sub r m x).2.1)
  | 0, x, f, g => ⟨f, fun z => by
    obtain ⟨⟨P, C1, hG, hs⟩, hm⟩ := g z
    exact absurd hG.2.2.2.2 (by show ¬ x.2.1 ≤ E; omega)⟩
  | m + 1, x, f, g => by
    have hu : lpq T sub r (m + 1) x = if x.1 = 0 ∧ lu_rk (lu_op (T x.2.1)) = r then lpq T sub r m (e_m (lu_op (T x.2.1)) (sub (0, x.2.1 + 1, x.2.2))) else x := rfl
    rw [hu]
    by_cases hc : x.1 = 0 ∧ lu_rk (lu_op (T x.2.1)) = r
    · rw [if_pos hc]
      obtain ⟨⟨P, C1, hG, hs⟩, hm⟩ := g hc.1
      have st := cG_s (k0 := k0) (A := A) hE h hr w1 w2 w3 (by rw [if_neg hr2]; exact hG) hc.2 _ rfl
      refine cG_l hE h hr hr2 w1 w2 w3 m _ st.1 (fun z => ?_)
      obtain ⟨P', C1', hG', hs', _, hlt⟩ := st.2 z
      exact ⟨⟨P', C1', hG', hs'⟩, by omega⟩
    · rw [if_neg hc]
      refine ⟨f, fun z => ?_⟩
      obtain ⟨⟨P, C1, hG, hs⟩, hm⟩ := g z
      refine ⟨P, C1, hG, ?_⟩
      have hne : ¬ lu_rk (lu_op (T x.2.1)) = r := fun zz => hc ⟨z, zz⟩
      rcases hs with hs | hs
      · exact Or.inl (by omega)
      · exact Or.inr hs
theorem cG_ch {T : Nat → tk} {E L r : Nat} {sub : mst → mst} (hE : tE T E) (h : cG T E L (r + 1) sub) (hr : 1 ≤ r) (hr2 : ¬ r = 2) : cG T E L r (fun s => lpq T sub r 1001 (sub s)) := by
  intro W C k h1 h2 h3 h4 h5
  have g := h W C k h1 (by omega) (by omega) h4 h5
  refine cG_l hE h hr hr2 h1 h2 h3 1001 _ g.1 (fun z => ?_)
  obtain ⟨P, C1, hG, hs⟩ := g.2 z
  exact ⟨⟨P, C1, ⟨fun y hy => by have := hG.1 y hy; omega, hG.2⟩, hs⟩, by have := hE.1; omega⟩
theorem cG_2 {T : Nat → tk} {E L : Nat} {sub : mst → mst} (hE : tE T E) (h : cG T E L 3 sub) : cG T E L 2 (fun s => lpq T sub 2 1 (sub s)) := by
  intro W C k h1 h2 h3 h4 h5
  have g := h W C k h1 (by omega) (by omega) h4 h5
  obtain ⟨x, hx⟩ : ∃ x, x = sub (0, k, C) := ⟨_, rfl⟩
  show (¬ (lpq T sub 2 1 (sub (0, k, C))).1 = 0 → oF T k (lS W C) (lpq T sub 2 1 (sub (0, k, C))).1 (lpq T sub 2 1 (sub (0, k, C))).2.1) ∧ ((lpq T sub 2 1 (sub (0, k, C))).1 = 0 → ∃ P C1, oG T E 2 k (lS W C) W (lpq T sub 2 1 (sub (0, k, C))) P C1 ∧ stp T 2 (P ++ W) C1 (lpq T sub 2 1 (sub (0, k, C))).2.1)
  rw [← hx] at g ⊢
  have hu : lpq T sub 2 1 x = if x.1 = 0 ∧ lu_rk (lu_op (T x.2.1)) = 2 then e_m (lu_op (T x.2.1)) (sub (0, x.2.1 + 1, x.2.2)) else x := rfl
  rw [hu]
  by_cases hc : x.1 = 0 ∧ lu_rk (lu_op (T x.2.1)) = 2
  · rw [if_pos hc]
    obtain ⟨P, C1, hG, hs⟩ := g.2 hc.1
    have st := cG_s (k0 := k) (A := lS W C) (r := 2) hE h (by omega) h1 h2 h3 (by rw [if_pos rfl]; exact hG) hc.2 _ rfl
    refine ⟨st.1, fun z => ?_⟩
    obtain ⟨P', C1', hG', hs', h2', hlt⟩ := st.2 z
    exact ⟨P', C1', hG', h2' rfl⟩
  · rw [if_neg hc]
    refine ⟨g.1, fun z => ?_⟩
    obtain ⟨P, C1, hG, hs⟩ := g.2 z
    refine ⟨P, C1, ⟨fun y hy => by have := hG.1 y hy; omega, hG.2⟩, ?_⟩
    have hne : ¬ lu_rk (lu_op (T x.2.1)) = 2 := fun zz => hc ⟨z, zz⟩
    rcases hs with hs | hs
    · exact Or.inl (by omega)
    · exact Or.inr hs
theorem cG_form {T : Nat → tk} {E L : Nat} {sub : mst → mst} (hE : tE T E) (h : cP T E L sub) : cG T E L 1 (m_form T sub) :=
  cG_ch hE (cG_2 hE (cG_ch hE (cG_ch hE (cG_5 h) (by omega) (by omega)) (by omega) (by omega))) (by omega) (by omega)
theorem l_rd_t (T : Nat → tk) (m k : Nat) (s : lst) : l_rd T (m + 1) k true s = if pt (T k) = -1 then (1, k, s) else if 5 ≤ s.2.1 then (5, k, s) else l_rd T m (k + 1) (decide (pt (T k) = 10004 ∨ pt (T k) = 10012)) (l_tp (pt (T k)) s) := rfl
theorem l_rd_f (T : Nat → tk) (m k : Nat) (s : lst) : l_rd T (m + 1) k false s = if s.2.2.1 = 0 ∧ p_isS (T k) 59 then (0, k, (st_s 1 s.1 s.2.2.2).1, s.2.1, s.2.2.1, (st_s 1 s.1 s.2.2.2).2) else if p_isS (T k) 41 then (if s.2.2.1 = 0 then (1, k, s) else l_rd T m (k + 1) false (l_cl s)) else if l_to (lu_op (T k)) s then l_rd T m (k + 1) true (l_to1 (lu_op (T k)) s) else (1, k, l_to1 (lu_op (T k)) s) := rfl
/-- a formula's end: nothing that stands there goes on -/
theorem l_rd_1 {T : Nat → tk} {k : Nat} {V C : List Int32} (h : stp T 1 V C k) (h41 : ¬ p_isS (T k) 41) (h59 : ¬ (nI (mo V) = 0 ∧ p_isS (T k) 59)) : ∀ m, ∃ s', l_rd T (m + 1) k false (lS V C) = (1, k, s') := by
  intro m
  rw [l_rd_f, if_neg h59, if_neg h41, if_neg (fun z => by
    rcases h with h | h
    · exact z.1 (lu_op_r (by omega))
    · exact z.2 h)]
  exact ⟨_, rfl⟩
theorem l_rd_1' {T : Nat → tk} {k : Nat} {V C : List Int32} (h : stp T 1 V C k) (h41 : ¬ p_isS (T k) 41) (h59 : ¬ (nI (mo V) = 0 ∧ p_isS (T k) 59)) : ∀ m, l_rd T (m + 1) k false (lS V C) = (1, k, l_to1 (lu_op (T k)) (lS V C)) := by
  intro m
  rw [l_rd_f, if_neg h59, if_neg h41, if_neg (fun z => by
    rcases h with h | h
    · exact z.1 (lu_op_r (by omega))
    · exact z.2 h)]
theorem cP_part {T : Nat → tk} {E : Nat} (hE : tE T E) : ∀ L, cP T E L (m_part T L)
  | 0 => by
    intro W C k h1 h2 h3
    have hu : m_part T 0 (0, k, C) = if pt (T k) = -1 then (1, k, C) else (5, k, C) := by
      show (if ¬ (0 : Nat) = 0 then (0, k, C) else if pt (T k) = -1 then (1, k, C) else (5, k, C)) = _
      rw [if_neg (fun z => z rfl)]
    rw [hu]
    by_cases hp : pt (T k) = -1
    · rw [if_pos hp]
      refine ⟨fun _ => ⟨0, lS W C, rfl, fun m => ?_⟩, fun z => by cases z⟩
      rw [l_rd_t, if_pos hp]
    · rw [if_neg hp]
      refine ⟨fun _ => ⟨0, lS W C, rfl, fun m => ?_⟩, fun z => by cases z⟩
      have h5 : (5 : Int32) ≤ (lS W C).2.1 := by
        show (5 : Int32) ≤ nI (mk W)
        rw [show mk W = 5 by omega]
        decide
      rw [l_rd_t, if_neg hp, if_pos h5]
  | L + 1 => by
    have ih := cP_part hE L
    intro W C k h1 h2 h3
    have hE1 := hE.1
    have hu : m_part T (L + 1) (0, k, C) = if pt (T k) = -1 then (1, k, C) else if pt (T k) = 10004 then e_m 10004 (m_part T L (0, k + 1, C)) else if pt (T k) = 10012 then t_cl T (m_form T (m_part T L) (0, k + 1, C)) else (0, k + 1, pt (T k) :: C) := by
      have h0 : m_part T (L + 1) (0, k, C) = if ¬ (0 : Nat) = 0 then (0, k, C) else if pt (T k) = -1 then (1, k, C) else if pt (T k) = 10004 then e_m 10004 (m_part T L (0, k + 1, C)) else if pt (T k) = 10012 then t_cl T (m_form T (m_part T L) (0, k + 1, C)) else (0, k + 1, pt (T k) :: C) := rfl
      rw [h0, if_neg (fun z => z rfl)]
    rw [hu]
    by_cases hp : pt (T k) = -1
    · rw [if_pos hp]
      refine ⟨fun _ => ⟨0, lS W C, rfl, fun m => ?_⟩, fun z => by cases z⟩
      rw [l_rd_t, if_pos hp]
    rw [if_neg hp]
    have hkE : k < E := Nat.lt_of_not_le (fun z => hp (pt_0 (hE.2 _ z)))
    have h5 : ¬ (5 : Int32) ≤ (lS W C).2.1 := fun z => by
      have := (nI_le_c (c := 5) (k := mk W) (by omega) (by omega)).mp z
      omega
    have hom := mo_mk W
    by_cases hn : pt (T k) = 10004
    · rw [if_pos hn]
      have e1 : mk (10004 :: W) = mk W + 1 := rfl
      have e2 : mo (10004 :: W) = mo W := rfl
      have g := ih (10004 :: W) C (k + 1) (by rw [e1]; omega) (by rw [e1]; show W.length + 1 ≤ _; omega) (by show C.length + (W.length + 1) ≤ k + 1; omega)
      have stepT : ∀ m, l_rd T (m + 1) k true (lS W C) = l_rd T m (k + 1) true (lS (10004 :: W) C) := fun m => by
        rw [l_rd_t, if_neg hp, if_neg h5, hn, decide_eq_true (Or.inl rfl)]
        have e : l_tp 10004 (lS W C) = (lu_aw 10004 W, nI (mk W) + 1, nI (mo W) + (if (10004 : Int32) = 10012 then 1 else 0), C) := if_pos (Or.inl rfl)
        rw [e, if_neg (by decide), Int32.add_zero, show lu_aw 10004 W = 10004 :: W from if_pos (by omega), ← nI_succ]
        rfl
      obtain ⟨z, hz⟩ : ∃ z, z = m_part T L (0, k + 1, C) := ⟨_, rfl⟩
      rw [← hz] at g ⊢
      show (¬ z.1 = 0 → oF T k (lS W C) z.1 z.2.1) ∧ (z.1 = 0 → oK T k (lS W C) z.2.1 (lNs W (10004 :: z.2.2)) ∧ z.2.2.length + 1 + W.length ≤ z.2.1 ∧ z.2.1 ≤ E)
      refine ⟨fun h0 => ?_, fun h0 => ?_⟩
      · obtain ⟨j, s', hj, hm⟩ := g.1 h0
        refine ⟨j + 1, s', by omega, fun m => ?_⟩
        rw [show m + (j + 1) + 1 = (m + j + 1) + 1 by omega, stepT, hm]
      · obtain ⟨⟨j, hj, hm⟩, hl, hle⟩ := g.2 h0
        have hl : z.2.2.length + (W.length + 1) ≤ z.2.1 := hl
        refine ⟨⟨j + 1, by omega, fun m => ?_⟩, by omega, hle⟩
        rw [show m + (j + 1) + 1 = (m + j + 1) + 1 by omega, stepT, hm, lNs_1 (by omega)]
    rw [if_neg hn]
    by_cases ho : pt (T k) = 10012
    · rw [if_pos ho]
      have e1 : mk (10012 :: W) = mk W + 1 := rfl
      have e2 : mo (10012 :: W) = mo W + 1 := rfl
      have g := cG_form hE ih (10012 :: W) C (k + 1) (by rw [e1]; omega) (by rw [e1]; show W.length + 1 + 1 ≤ _; omega) (by show lu_rk 10012 < 1; decide) (by show ¬ (10012 : Int32) = 10004; decide) (by show C.length + (W.length + 1) ≤ k + 1; omega)
      have stepT : ∀ m, l_rd T (m + 1) k true (lS W C) = l_rd T m (k + 1) true (lS (10012 :: W) C) := fun m => by
        rw [l_rd_t, if_neg hp, if_neg h5, ho, decide_eq_true (Or.inr rfl)]
        have e : l_tp 10012 (lS W C) = (lu_aw 10012 W, nI (mk W) + 1, nI (mo W) + (if (10012 : Int32) = 10012 then 1 else 0), C) := if_pos (Or.inr rfl)
        rw [e, if_pos rfl, show lu_aw 10012 W = 10012 :: W from if_pos (by omega), ← nI_succ, ← nI_succ]
        rfl
      obtain ⟨z, hz⟩ : ∃ z, z = m_form T (m_part T L) (0, k + 1, C) := ⟨_, rfl⟩
      rw [← hz] at g ⊢
      by_cases h0 : z.1 = 0
      · obtain ⟨P, C1, ⟨hP, hx, ⟨j, hj, hm⟩, hl, hle⟩, hst⟩ := g.2 h0
        have hl : z.2.2.length + (W.length + 1) ≤ z.2.1 := hl
        have hap := mk_ap (W := 10012 :: W) hP
        have hmo : mo (P ++ 10012 :: W) = mo W + 1 := hap.2.trans e2
        have hne : ¬ nI (mo (P ++ 10012 :: W)) = 0 := fun zz => by
          have := (hi_nIe (i := mo (P ++ 10012 :: W)) (k := 0) (by omega) (by omega)).mp zz
          omega
        have ht : t_cl T z = if p_isS (T z.2.1) 41 then (0, z.2.1 + 1, z.2.2) else (1, z.2) := if_pos h0
        rw [ht]
        by_cases hc : p_isS (T z.2.1) 41
        · rw [if_pos hc]
          have hzE : z.2.1 < E := Nat.lt_of_not_le (fun zz => by have h1 := hE.2 _ zz; have h2 := hc.1; omega)
          have hlen : P.length + C1.length = z.2.2.length := by rw [hx, List.length_append, List.length_reverse]
          have hs : st_s 1 (P ++ 10012 :: W) C1 = (10012 :: W, z.2.2) := by rw [st_s_ap hP (by show ¬ 1 ≤ lu_rk 10012; decide) (by omega), hx]
          have hcb : l_cb (P ++ 10012 :: W) (nI (mk (P ++ 10012 :: W))) C1 = st_n W (nI (mk W)) z.2.2 := by
            unfold l_cb
            rw [hs, hap.1, e1, nI_succ, Int32.add_sub_cancel]
            rfl
          have hcl : l_cl (lS (P ++ 10012 :: W) C1) = lNs W z.2.2 := by
            show ((l_cb (P ++ 10012 :: W) (nI (mk (P ++ 10012 :: W))) C1).1, (l_cb (P ++ 10012 :: W) (nI (mk (P ++ 10012 :: W))) C1).2.1, nI (mo (P ++ 10012 :: W)) - 1, (l_cb (P ++ 10012 :: W) (nI (mk (P ++ 10012 :: W))) C1).2.2) = lNs W z.2.2
            rw [hcb, hmo, nI_succ, Int32.add_sub_cancel]
            rfl
          refine ⟨fun zz => absurd rfl zz, fun _ => ⟨⟨j + 1 + 1, by show z.2.1 + 1 = _; omega, fun m => ?_⟩, by show z.2.2.length + W.length ≤ z.2.1 + 1; omega, hzE⟩⟩
          rw [show m + (j + 1 + 1) + 1 = ((m + 1) + j + 1) + 1 by omega, stepT, hm, l_rd_f, if_neg (fun zz => hne zz.1), if_pos hc, if_neg hne, hcl]
        · rw [if_neg hc]
          refine ⟨fun _ => ⟨j + 1 + 1, l_to1 (lu_op (T z.2.1)) (lS (P ++ 10012 :: W) C1), by show z.2.1 = _; omega, fun m => ?_⟩, fun zz => by cases zz⟩
          rw [show m + (j + 1 + 1) + 1 = ((m + 1) + j + 1) + 1 by omega, stepT, hm, l_rd_1' hst hc (fun zz => hne zz.1)]
      · have ht : t_cl T z = z := if_neg h0
        rw [ht]
        refine ⟨fun _ => ?_, fun zz => absurd zz h0⟩
        obtain ⟨j, s', hj, hm⟩ := g.1 h0
        refine ⟨j + 1, s', by omega, fun m => ?_⟩
        rw [show m + (j + 1) + 1 = (m + j + 1) + 1 by omega, stepT, hm]
    rw [if_neg ho]
    refine ⟨fun zz => absurd rfl zz, fun _ => ⟨⟨0, rfl, fun m => ?_⟩, by show C.length + 1 + W.length ≤ k + 1; omega, hkE⟩⟩
    have hd : ¬ (pt (T k) = 10004 ∨ pt (T k) = 10012) := fun zz => zz.elim hn ho
    have e : l_tp (pt (T k)) (lS W C) = ((st_n W (nI (mk W)) (lu_em (pt (T k)) C)).1, (st_n W (nI (mk W)) (lu_em (pt (T k)) C)).2.1, nI (mo W), (st_n W (nI (mk W)) (lu_em (pt (T k)) C)).2.2) := if_neg hd
    rw [show m + 0 + 1 = m + 1 from rfl, l_rd_t, if_neg hp, if_neg h5, decide_eq_false hd, e, show lu_em (pt (T k)) C = pt (T k) :: C from if_pos (by omega)]
    rfl
theorem l_rd_E {T : Nat → tk} {E : Nat} (hE : tE T E) : ∀ (m k : Nat) (d : Bool) (s : lst), k ≤ E → (l_rd T m k d s).2.1 ≤ E
  | 0, k, d, s, h => h
  | m + 1, k, true, s, h => by
    rw [l_rd_t]
    by_cases hp : pt (T k) = -1
    · rw [if_pos hp]; exact h
    · rw [if_neg hp]
      have hkE : k < E := Nat.lt_of_not_le (fun z => hp (pt_0 (hE.2 _ z)))
      split
      · exact h
      · exact l_rd_E hE m _ _ _ hkE
  | m + 1, k, false, s, h => by
    rw [l_rd_f]
    split
    · exact h
    · split
      · rename_i hc
        have hkE : k < E := Nat.lt_of_not_le (fun zz => by have h1 := hE.2 _ zz; have h2 := hc.1; omega)
        split
        · exact h
        · exact l_rd_E hE m _ _ _ hkE
      · split
        · rename_i hc
          have hkE : k < E := Nat.lt_of_not_le (fun z => hc.1 (lu_op_0 (hE.2 _ z)))
          exact l_rd_E hE m _ _ _ hkE
        · exact h
/-- the whole of a law: both readings say the same -/
theorem l_rd_m {T : Nat → tk} {E k : Nat} (hE : tE T E) (hk : k ≤ E) {x : mst} (hx : x = m_form T (m_part T 5) (0, k, [])) {y : Nat × Nat × lst} (hy : y = l_rd T 1001 k true ([], 0, 0, [])) : y.2.1 = x.2.1 ∧ (¬ x.1 = 0 → y.1 = x.1) ∧ (x.1 = 0 → x.2.1 ≤ E ∧ x.2.2.length ≤ x.2.1 ∧ (p_isS (T x.2.1) 59 → y.1 = 0 ∧ y.2.2.2.2.2 = x.2.2) ∧ (¬ p_isS (T x.2.1) 59 → y.1 = 1)) := by
  have hE1 := hE.1
  have g := cG_form hE (cP_part hE 5) [] [] k rfl (by show 0 + 1 ≤ 5 * 0 + 1; omega) (by show lu_rk 0 < 1; decide) (by show ¬ (0 : Int32) = 10004; decide) (by show 0 + 0 ≤ k; omega)
  rw [← hx] at g
  have hle : y.2.1 ≤ E := by rw [hy]; exact l_rd_E hE _ _ _ _ hk
  have hle2 : ∀ m, (l_rd T m k true (lS [] [])).2.1 ≤ E := fun m => l_rd_E hE _ _ _ _ hk
  have hy : y = l_rd T 1001 k true (lS [] []) := hy
  by_cases h0 : x.1 = 0
  · obtain ⟨P, C1, ⟨hP, hc, ⟨j, hj, hm⟩, hl, hxE⟩, hst⟩ := g.2 h0
    have hl : x.2.2.length + 0 ≤ x.2.1 := hl
    obtain ⟨m, hm1⟩ : ∃ m, 1001 = (m + 1) + j + 1 := ⟨1001 - j - 2, by omega⟩
    have e0 : y = l_rd T (m + 1) x.2.1 false (lS (P ++ []) C1) := by rw [hy, hm1, hm]
    have hmo : mo (P ++ []) = 0 := (mk_ap (W := []) hP).2
    have hlen : P.length + C1.length = x.2.2.length := by rw [hc, List.length_append, List.length_reverse]
    by_cases h59 : p_isS (T x.2.1) 59
    · have hs : st_s 1 (P ++ []) C1 = ([], x.2.2) := by rw [st_s_ap hP (by show ¬ 1 ≤ lu_rk 0; decide) (by omega), hc]
      have e1 : y = (0, x.2.1, (st_s 1 (P ++ []) C1).1, nI (mk (P ++ [])), nI (mo (P ++ [])), (st_s 1 (P ++ []) C1).2) := by
        rw [e0, l_rd_f, if_pos ⟨by show nI (mo (P ++ [])) = 0; rw [hmo]; rfl, h59⟩]
      refine ⟨by rw [e1], fun z => absurd h0 z, fun _ => ⟨hxE, by omega, fun _ => ⟨by rw [e1], by rw [e1, hs]⟩, fun z => absurd h59 z⟩⟩
    · have e1 : y.1 = 1 ∧ y.2.1 = x.2.1 := by
        by_cases h41 : p_isS (T x.2.1) 41
        · rw [e0, l_rd_f, if_neg (fun z => h59 z.2), if_pos h41, if_pos (by show nI (mo (P ++ [])) = 0; rw [hmo]; rfl)]
          exact ⟨rfl, rfl⟩
        · rw [e0, l_rd_1' hst h41 (fun z => h59 z.2)]
          exact ⟨rfl, rfl⟩
      exact ⟨e1.2, fun z => absurd h0 z, fun _ => ⟨hxE, by omega, fun z => absurd z h59, fun _ => e1.1⟩⟩
  · obtain ⟨j, s', hj, hm⟩ := g.1 h0
    have hjE : x.2.1 ≤ E := by have := hle2 (0 + j + 1); rw [hm 0] at this; exact this
    obtain ⟨m, hm1⟩ : ∃ m, 1001 = m + j + 1 := ⟨1001 - j - 1, by omega⟩
    have e0 : y = (x.1, x.2.1, s') := by rw [hy, hm1, hm]
    exact ⟨by rw [e0], fun _ => by rw [e0], fun z => absurd z h0⟩
end HNdescent
