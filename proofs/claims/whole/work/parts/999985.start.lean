/-! what holds at the start -/
section HNstart
def n_flat : List Cond := flatC (Jvm.Cond.and given_1 narrow_1)
def n_at (w : Cond) (i : Nat) : Bool := decide (n_flat[i]? = some w)
theorem n_in {args : Array Value} {s : State} (h : (Jvm.Cond.and given_1 narrow_1).before args s = true) {w : Cond} (i : Nat) (hw : n_at w i = true) : w.before args s = true := flat_of_before _ h w (List.mem_of_getElem? (of_decide_eq_true hw))
/-- a family of words, each in its place -/
def n_fam (f : Nat → Cond) (ps : List Nat) : Bool := (List.range 26).all (fun i => n_at (f i) (ps.getD i 0))
theorem n_fam_in {args : Array Value} {s : State} (h : (Jvm.Cond.and given_1 narrow_1).before args s = true) {f : Nat → Cond} {ps : List Nat} (hf : n_fam f ps = true) : ∀ i, i < 26 → (f i).before args s = true := fun i hi => n_in h _ (List.all_eq_true.mp hf i (List.mem_range.mpr hi))
abbrev wT (i : Nat) : Term := .static "HammockNet$Word" (hn_wn.getD i "") "LHammockNet$Word;"
abbrev wA : Term := .static "HammockNet$Tape" "WORDS" "[LHammockNet$Word;"
theorem n_ex : n_fam (fun i => .exactly (wT i) "HammockNet$Word") [4, 9, 45, 50, 55, 60, 65, 70, 75, 80, 110, 95, 100, 105, 115, 122, 127, 132, 137, 142, 85, 90, 147, 152, 157, 162] = true := by decide +kernel
theorem n_or : n_fam (fun i => .eq (.field (wT i) "java/lang/Enum" "ordinal" "I") (.int (nI i))) [5, 10, 46, 51, 56, 61, 66, 71, 76, 81, 111, 96, 101, 106, 116, 123, 128, 133, 138, 143, 86, 91, 148, 153, 158, 163] = true := by decide +kernel
theorem n_rs : n_fam (fun i => .eq (.field (wT i) "HammockNet$Word" "reserved" "Z") (.int (hn_wres.getD i 0))) [6, 11, 47, 52, 57, 62, 67, 72, 77, 82, 112, 97, 102, 107, 117, 124, 129, 134, 139, 144, 87, 92, 149, 154, 159, 164] = true := by decide +kernel
theorem n_nu : n_fam (fun i => .eq (.field (wT i) "HammockNet$Word" "number" "I") (.int (hn_wnum.getD i 0))) [7, 12, 48, 53, 58, 63, 68, 73, 78, 83, 113, 98, 103, 108, 118, 125, 130, 135, 140, 145, 88, 93, 150, 155, 160, 165] = true := by decide +kernel
theorem n_le : n_fam (fun i => .eq (.field (wT i) "HammockNet$Word" "letters" "J") (.long (hn_wlet.getD i 0))) [8, 13, 49, 54, 59, 64, 69, 74, 79, 84, 114, 99, 104, 109, 119, 126, 131, 136, 141, 146, 89, 94, 151, 156, 161, 166] = true := by decide +kernel
theorem n_el : n_fam (fun i => .eq (.elem wA (.int (nI i))) (wT i)) [19, 20, 21, 22, 23, 24, 25, 26, 27, 28, 29, 30, 31, 32, 33, 34, 35, 36, 37, 38, 39, 40, 41, 42, 43, 44] = true := by decide +kernel
theorem n_wa : n_at (.arrayOf wA (.object "HammockNet$Word")) 16 = true := by decide +kernel
theorem n_wl : n_at (.eq (.length wA) (.int (nI 26))) 17 = true := by decide +kernel
/-- words of the tables, each in its place -/
def n_tb (w : Cond) (i : Nat) : Bool := decide (lw_tbl[i]? = some w)
theorem n_tb_in {w : Cond} (i : Nat) (h : n_tb w i = true) : w ∈ lw_tbl := List.mem_of_getElem? (of_decide_eq_true h)
theorem n_ly : (List.range 26).all (fun i => n_tb (.laysStatic "HammockNet$Word" (hn_wn.getD i "") "LHammockNet$Word;") (([152, 528, 540, 580, 602, 625, 627, 633, 635, 641, 723, 717, 719, 721, 725, 1868, 1869, 1870, 1871, 1872, 681, 683, 1873, 1874, 1875, 1876] : List Nat).getD i 0)) = true := by decide +kernel
theorem n_ly_in : ∀ i, i < 26 → Cond.laysStatic "HammockNet$Word" (hn_wn.getD i "") "LHammockNet$Word;" ∈ lw_tbl := fun i hi => n_tb_in _ (List.all_eq_true.mp n_ly i (List.mem_range.mpr hi))
def n_tbs : List Cond → List Nat → Bool
  | [], _ => true
  | w :: t, i :: r => n_tb w i && n_tbs t r
  | _ :: _, [] => false
theorem n_tbs_in : ∀ {L : List Cond} {ps : List Nat}, n_tbs L ps = true → ∀ w ∈ L, w ∈ lw_tbl
  | [], _, _, w, h => by cases h
  | w :: t, i :: r, h, x, hx => by
    simp only [n_tbs, Bool.and_eq_true] at h
    rcases List.mem_cons.mp hx with rfl | hx
    · exact n_tb_in _ h.1
    · exact n_tbs_in h.2 x hx
  | _ :: _, [], h, _, _ => by simp [n_tbs] at h
theorem n_nest : n_tbs hn_nest [147, 206, 212, 245, 330, 355, 359, 385, 406] = true := by decide +kernel
theorem n_nestT : ∀ w ∈ hn_nest, w.onTables = true := by
  have h : hn_nest.all (fun w => w.onTables) = true := by decide +kernel
  exact List.all_eq_true.mp h
theorem n_kx : n_tbs hn_kx [1159, 1161, 1163, 1165] = true := by decide +kernel
/-- the constants of Word -/
theorem l_En {args : Array Value} {s : State} {A : Nat → Prop} (hl : ∀ i, i < 26 → (Cond.laysStatic "HammockNet$Word" (hn_wn.getD i "") "LHammockNet$Word;").before args s = true) (hini : (Cond.initialized "HammockNet$Word").before args s = true) (hgv : (Jvm.Cond.and given_1 narrow_1).before args s = true) (hA : ∀ a : Nat, a < s.heap.size → ¬ A a) :
    ∃ ad : Nat → Nat, va_En "HammockNet$Word" "LHammockNet$Word;" hn_wn [("HammockNet$Word", "reserved", "Z", hn_wres), ("HammockNet$Word", "number", "I", hn_wnum)] ad A s s.heap ∧ ∀ i, i < 26 → (wT i).eval args s none [] s = some (.ref (ad i)) := by
  have hex := n_fam_in hgv n_ex
  have h0 : ∀ i : Nat, ∃ t : Nat, i < 26 → (wT i).eval args s none [] s = some (.ref t) ∧ va_O "HammockNet$Word" t A s s.heap := by
    intro i
    by_cases hi : i < 26
    · obtain ⟨a, c, cell, k, q1, q2, q3, q4, q5, q6, -⟩ := Cond.exactly_spec (hex i hi)
      exact ⟨a, fun _ => ⟨q1, cell, q3, q5, by rw [q6]; exact q2, hA a (Array.getElem?_eq_some_iff.mp q3).1⟩⟩
    · exact ⟨0, fun h => absurd h hi⟩
  obtain ⟨ad, had⟩ := Classical.axiomOfChoice h0
  refine ⟨ad, ⟨fun i hi => ?_, fun i j hi hj e => ?_⟩, fun i hi => (had i hi).1⟩
  · have hi : i < 26 := hi
    refine ⟨va_Zref (hl i hi) hini (had i hi).1 hA, (had i hi).2, fun q hq => ?_⟩
    have hv : (Term.field (wT i) q.1 q.2.1 q.2.2.1).eval args s none [] s = some (.int (q.2.2.2.getD i 0)) := by
      simp only [List.mem_cons, List.not_mem_nil, or_false] at hq
      rcases hq with rfl | rfl
      · exact va_eqt (n_fam_in hgv n_rs i hi)
      · exact va_eqt (n_fam_in hgv n_nu i hi)
    cases hfo : s.fieldFound? q.1 q.2.1 q.2.2.1 with
    | none =>
      rw [va_fe (had i hi).1] at hv
      simp [State.fieldOf?, State.fieldNamed?, hfo] at hv
    | some x =>
      obtain ⟨cf, k, fi, f⟩ := x
      obtain ⟨g1, cell, g2, g3, -, -, g6⟩ := Term.field_spec hfo (had i hi).1 hv
      exact ⟨cf, k, fi, f, cell, hfo, g1, g2, g3, g6, hA _ (Array.getElem?_eq_some_iff.mp g2).1⟩
  · have hi : i < 26 := hi
    have hj : j < 26 := hj
    have vi := va_eqt (n_fam_in hgv n_or i hi)
    have vj := va_eqt (n_fam_in hgv n_or j hj)
    rw [va_fe (had i hi).1] at vi
    rw [va_fe (had j hj).1] at vj
    rw [e] at vi
    have h9 := Value.int.inj (Option.some.inj (vi.symm.trans vj))
    exact (hi_nIe (by omega) (by omega)).mp h9
theorem l_ty_o {args : Array Value} {s : State} {C : String} (h : (Cond.arrayOver (.object C)).before args s = true) : ∃ c : ClassId, ArrOfT s c (.object C) ∧ va_RA s c (.object C) := by
  obtain ⟨comp, c, k, h1, h2, h3, h4, h5⟩ := Cond.arrayOver_spec h
  exact ⟨c, fun n z => ⟨fun k h => (by cases h), k, h3, comp, h4⟩, k, comp, h3, h4, h1, h5⟩
theorem l_ty_i {args : Array Value} {s : State} (h : (Cond.arrayClass .int).before args s = true) : ∃ c : ClassId, ArrOfT s c .int ∧ va_RA s c .int := by
  obtain ⟨c, k, comp, h1, h2, h3⟩ := Cond.arrayClass_spec h
  exact ⟨c, fun n z => ⟨fun k h => (by cases h), k, h2, comp, h3⟩, h1⟩
theorem l_ty_l {args : Array Value} {s : State} (h : (Cond.arrayClass .long).before args s = true) : ∃ c : ClassId, ArrOfT s c .long ∧ va_RA s c .long := by
  obtain ⟨c, k, comp, h1, h2, h3⟩ := Cond.arrayClass_spec h
  exact ⟨c, fun n z => ⟨fun k h => (by cases h), k, h2, comp, h3⟩, h1⟩
theorem l_ty_z {args : Array Value} {s : State} (h : (Cond.arrayClass .boolean).before args s = true) : ∃ c : ClassId, ArrOfT s c .boolean ∧ va_RA s c .boolean := by
  obtain ⟨c, k, comp, h1, h2, h3⟩ := Cond.arrayClass_spec h
  exact ⟨c, fun n z => ⟨fun k h => (by cases h), k, h2, comp, h3⟩, h1⟩
theorem l_ty_c {args : Array Value} {s : State} (h : (Cond.arrayClass .char).before args s = true) : ∃ c : ClassId, ArrOfT s c .char ∧ va_RA s c .char := by
  obtain ⟨c, k, comp, h1, h2, h3⟩ := Cond.arrayClass_spec h
  exact ⟨c, fun n z => ⟨fun k h => (by cases h), k, h2, comp, h3⟩, h1⟩
theorem l_cls {args : Array Value} {s : State} (hts : ∀ w ∈ hn_T, w.before args s = true) : ∃ (dC : Nat → ClassId) (dI : Nat → Nat → Nat), ∀ (k : Nat) (q : vw_C), hn_cl[k]? = some q → u_Kn s q.1 q.2.1 q.2.2 (dC k) (dI k) := by
  have h : ∀ k : Nat, ∃ x : ClassId × (Nat → Nat), ∀ q, hn_cl[k]? = some q → u_Kn s q.1 q.2.1 q.2.2 x.1 x.2 := by
    intro k
    rcases (show hn_cl[k]? = none ∨ ∃ q, hn_cl[k]? = some q by cases hn_cl[k]? with | none => exact Or.inl rfl | some q => exact Or.inr ⟨q, rfl⟩) with e | ⟨q, e⟩
    · exact ⟨(0, fun _ => 0), fun q h => by rw [e] at h; cases h⟩
    · obtain ⟨h1, h2, -⟩ := hn_cl_ok e
      obtain ⟨c, iS, h3⟩ := u_known (ws := hn_T) hts h1 (hts _ h2)
      exact ⟨(c, iS), fun q' h' => by rw [e] at h'; cases h'; exact h3⟩
  obtain ⟨f, hf⟩ := Classical.axiomOfChoice h
  exact ⟨fun k => (f k).1, fun k => (f k).2, fun k q hq => hf k q hq⟩
theorem l_str {args : Array Value} {s : State} {k : Nat} {tx : String} (h1 : (Cond.stringRef "HammockNet" k tx).before args s = true) (h2 : (Cond.exactly (.string "HammockNet" k) "java/lang/String").before args s = true) : ∃ sa, vk_R "HammockNet" k tx sa s := by
  obtain ⟨a, c, cell, k, q1, -⟩ := Cond.exactly_spec h2
  exact ⟨a, vk_R.of h1 q1⟩
end HNstart
