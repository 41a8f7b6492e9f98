/-! class and reference: how the one lies to the other -/
def FI (V : VC) : Prop := SrtF V.1.1 ∧ (∀ f, f ∈ V.1.1 → (f.2.1 = 0 ∨ f.2.1 = 1 ∨ f.2.1 = 2) ∧ (1 ≤ f.1.toInt ∧ f.1.toInt < V.1.2.2.2.2.2.toInt) ∧ 1 ≤ f.2.2.1.length) ∧ V.1.1.length ≤ 2048 ∧ (128 ≤ V.1.2.2.2.1.toInt ∧ V.1.2.2.2.1.toInt ≤ 16384 ∧ 128 ≤ V.1.2.2.2.2.1.toInt ∧ V.1.2.2.2.2.1.toInt ≤ 4096) ∧ ((totF V.1.1 : Nat) : Int) ≤ V.1.2.2.2.1.toInt ∧ ∀ f f', f ∈ V.1.1 → f' ∈ V.1.1 → f.2.1 = 2 → f'.2.1 = 2 → f.1 = f'.1
def RWi (V : VC) : Prop := SrtR V.2.1 ∧ (∀ r, r ∈ V.2.1 → 1 ≤ r.1.length ∧ ∃ x P W, rowFit V.1.1 r x P W) ∧ 15 * V.2.1.length ≤ totF V.1.1 ∧ (V.2.2.2.2.1.1 = 0 → V.2.1 = [])
/-- the small files -/
def scnt (fs : List AF) : Nat := (fs.filter (fun f => decide (f.2.2.1.length < 12))).length
def SCb (t : Nat) (B : Int) (V : VC) : Prop := (V.2.2.2.2.1.1 = 0 ∨ V.2.2.2.2.1.1 = 1) ∧ (1 ≤ V.1.2.2.2.2.2.toInt ∧ V.1.2.2.2.2.2.toInt ≤ B) ∧ (1 ≤ V.2.2.2.2.1.2.2.1.toInt ∧ V.2.2.2.2.1.2.2.1.toInt ≤ 1000000001) ∧ (V.2.2.2.2.1.2.1 = -1 ∨ ((1 ≤ V.2.2.2.2.1.2.1.toInt ∧ V.2.2.2.2.1.2.1.toInt < V.1.2.2.2.2.2.toInt) ∧ ∀ f, fndF V.2.2.2.2.1.2.1 0 V.1.1 = some f → 12 ≤ f.2.2.1.length)) ∧ (V.2.2.2.2.1.1 = 0 → V.2.2.1.1 = 0 ∧ V.2.2.1.2.1 = 0 ∧ V.2.2.2.2.1.2.1 = -1) ∧ scnt V.1.1 ≤ t ∧ V.2.2.1.2.2.2.2.2.2.length ≤ 8900
def SCi (t : Nat) (V : VC) : Prop := SCb t (1 + 1300 * (t : Int)) V
def ArrS (S : MS) : Prop := drOk S ∧ lLen S ∧ oLen S ∧ (S.2 21).length = 4200
def RelS (V : VC) (S : MS) : Prop := (S.1 1 = V.1.2.2.2.1 ∧ S.1 2 = V.1.2.2.2.2.1 ∧ S.1 24 = V.1.2.2.2.2.2 ∧ S.1 25 = V.2.2.2.2.1.2.2.1 ∧ S.1 26 = V.2.2.2.2.1.2.1 ∧ S.1 23 = V.2.2.2.2.1.1) ∧ (S.1 19 = V.2.2.2.1.1 ∧ S.1 20 = V.2.2.2.1.2.1 ∧ S.1 21 = V.2.2.2.1.2.2.1 ∧ S.1 22 = V.2.2.2.1.2.2.2.1)
def Reps (V : VC) (S : MS) (ps : List AV) : Prop := RepF S V.1.1 ∧ RepP S ps ∧ RepR S V.2.1 ∧ RepT S V.2.2.2.2.1.2.2.2.1 ∧ RepA S V.2.2.2.2.1.2.2.2.2
/-- a is copied before b -/
def bhd (a b : AR) : Prop := liesA a b = true ∨ (liesA b a = false ∧ csg a.1 b.1 < 0)
def LV (li : Int32) (rs ms : List AR) (nl : Nat) : Prop := ms.Pairwise bhd ∧ (∀ r, r ∈ ms → r.2.1 < li) ∧ (∀ a b, a ∈ ms → b ∈ ms → csg a.1 b.1 = 0 → a = b) ∧ (∀ r, r ∈ ms → nrm r.1) ∧ ∀ r, r ∈ rs → r.2.1 < li → r ∈ ms.drop nl
def remL (rs ms : List AR) (nl : Nat) : List AR := (ms.drop nl).filter (stl rs)
/-- the bytes that records and hints of the rest will take -/
def pk (fm : Nat) : List AR → Option Nat → Nat
  | [], _ => 0
  | r :: l, none => 8 + (rcn r + 14 + r.1.length) + pk fm l (some (rcn r))
  | r :: l, some s => if s + rcn r ≤ fm then (rcn r + 14 + r.1.length) + pk fm l (some (s + rcn r)) else 8 + (rcn r + 14 + r.1.length) + pk fm l (some (rcn r))
def oLv (ou : Int32) (fs : List AF) : Option Nat := if ou = -1 then none else some (szF ou 0 fs)
def need1 (V : VC) (ms os : List AR) (nl : Nat) (is : List Int32) : Nat := (8 + 4 * is.length) + (if V.2.2.1.2.2.1 = -1 then 0 else (hiC os).length) + pk V.1.2.2.2.2.1.toNatClampNeg (remL V.2.1 ms nl) (oLv V.2.2.1.2.2.1 V.1.1)
/-- the data files' bytes, from a number on -/
def dby (li : Int32) : List AF → Nat
  | [] => 0
  | f :: fs => (if f.2.1 = 0 ∧ ¬ f.1 < li then f.2.2.1.length else 0) + dby li fs
def cnw (li : Int32) (rs : List AR) : Nat := (rs.filter (fun r => !decide (r.2.1 < li))).length
def inpL (li : Int32) (fs : List AF) : List Int32 := dNum (fs.filter (fun f => decide (f.1 < li)))
def M0 (V : VC) (S : MS) : Prop := V.2.2.1.1 = 0 ∧ S.1 34 = 0 ∧ S.1 35 = -1 ∧ V.2.2.1.2.2.1 = -1 ∧ V.2.2.1.2.2.2.1 = -1 ∧ V.2.2.1.2.2.2.2.2.1 = 0 ∧ (V.2.2.2.2.1.1 ≠ 0 → ∀ f, f ∈ V.1.1 → ¬ f.2.1 = 2)
def liOk (V : VC) : Prop := (1 ≤ V.2.2.1.2.1.toInt ∧ V.2.2.1.2.1.toInt ≤ V.1.2.2.2.2.2.toInt) ∧ (V.2.2.2.2.1.2.1 = -1 ∨ V.2.2.1.2.1.toInt ≤ V.2.2.2.2.1.2.1.toInt) ∧ 15 * cnw V.2.2.1.2.1 V.2.1 ≤ dby V.2.2.1.2.1 V.1.1
def outOk (V : VC) (S : MS) (os : List AR) : Prop := RepO S os ∧ os ≠ [] ∧ V.2.2.1.2.2.2.2.2.2 = be4 0 ++ os.flatMap entB ∧ V.2.2.1.2.2.2.2.1 = nI os.length ∧ ((os.flatMap entB).length ≤ szF V.2.2.1.2.2.1 0 V.1.1 ∧ ((szF V.2.2.1.2.2.1 0 V.1.1 : Nat) : Int) ≤ V.1.2.2.2.2.1.toInt) ∧ (V.2.2.1.2.1.toInt ≤ V.2.2.1.2.2.1.toInt ∧ V.2.2.1.2.2.1.toInt < V.1.2.2.2.2.2.toInt) ∧ V.2.2.2.2.1.2.1 ≠ V.2.2.1.2.2.1 ∧ fndF V.2.2.1.2.2.1 1 V.1.1 = none
def M1 (V : VC) (S : MS) : Prop := V.2.2.1.1 = 1 ∧ V.2.2.1.2.2.2.1 = -1 ∧ S.1 34 = 1 ∧ S.1 35 = V.2.2.1.2.2.1 ∧ liOk V ∧ (∀ f, f ∈ V.1.1 → ¬ f.2.1 = 2) ∧ ∃ ms nl os R, (RepL S ms ∧ S.1 43 = nI nl ∧ nl ≤ ms.length ∧ LV V.2.2.1.2.1 V.2.1 ms nl) ∧ (RepI S (inpL V.2.2.1.2.1 V.1.1) ∧ S.1 46 = 0 ∧ inpL V.2.2.1.2.1 V.1.1 ≠ []) ∧ (V.2.2.1.2.2.1 ≠ -1 → outOk V S os) ∧ (V.2.2.1.2.2.2.2.2.1 = nI R ∧ S.1 36 - S.1 37 = nI R ∧ ((totF V.1.1 + R : Nat) : Int) ≤ V.1.2.2.2.1.toInt ∧ need1 V ms os nl (inpL V.2.2.1.2.1 V.1.1) ≤ R)
def M2 (V : VC) (S : MS) (ps : List AV) : Prop := V.2.2.1.1 = 1 ∧ V.2.2.1.2.2.2.1 ≠ -1 ∧ S.1 34 = 2 ∧ S.1 35 = -1 ∧ V.2.2.1.2.2.1 = -1 ∧ S.1 47 = V.2.2.1.2.2.2.1 ∧ liOk V ∧ (V.2.2.1.2.1.toInt ≤ V.2.2.1.2.2.2.1.toInt ∧ V.2.2.1.2.2.2.1.toInt < V.1.2.2.2.2.2.toInt) ∧ (∀ f, f ∈ V.1.1 → f.2.1 = 2 → f.1 = V.2.2.1.2.2.2.1) ∧ V.2.2.1.2.2.2.2.2.1 = 0 ∧ (∀ r, r ∈ V.2.1 → ¬ r.2.1 < V.2.2.1.2.1) ∧ (∀ p, p ∈ ps → ¬ p.1 < V.2.2.1.2.1 ∧ p.2.1 = 0) ∧ ∃ is ni, RepI S is ∧ S.1 46 = nI ni ∧ ni ≤ is.length ∧ is.drop ni = inpL V.2.2.1.2.1 V.1.1
def RelB (t : Nat) (B : Int) (V : VC) (S : MS) (ps : List AV) : Prop := (FI V ∧ RWi V ∧ SCb t B V) ∧ (RelS V S ∧ ArrS S ∧ Reps V S ps) ∧ (PRel V.1.1 V.1.2.2.1 ps ∧ (V.2.2.2.2.1.1 = 0 → ps = [])) ∧ (M0 V S ∨ M1 V S ∨ M2 V S ps)
def Rel (t : Nat) (V : VC) (S : MS) (ps : List AV) : Prop := RelB t (1 + 1300 * (t : Int)) V S ps
section
variable {t : Nat} {V : VC} {S : MS} {ps : List AV}
/-- the frames of the reference's calls that only answer -/
theorem m0_fr {S' : MS} {J K : List Nat} (h : M0 V S) (hf : mfr J K S S') (h34 : 34 ∉ J) (h35 : 35 ∉ J) : M0 V S' := by
  unfold M0
  rw [hf.1 34 h34, hf.1 35 h35]
  exact h
theorem m1_fr {S' : MS} {J K : List Nat} (h : M1 V S) (hf : mfr J K S S') (hJ : ∀ j, 34 ≤ j → j ∉ J) (hK : ∀ q, 17 ≤ q → q ∉ K) : M1 V S' := by
  obtain ⟨a1, a2, a3, a4, a5, a6, ms, nl, os, R, ⟨b1, b2, b3, b4⟩, ⟨b5, b6⟩, b7, b8, b9, b10, b11⟩ := h
  have e : ∀ j, 34 ≤ j → S'.1 j = S.1 j := fun j hj => hf.1 j (hJ j hj)
  refine ⟨a1, a2, by rw [e 34 (by decide)]; exact a3, by rw [e 35 (by decide)]; exact a4, a5, a6, ms, nl, os, R, ⟨repL_fr b1 hf (hJ 42 (by decide)) (hK 17 (by decide)) (hK 18 (by decide)) (hK 19 (by decide)) (hK 20 (by decide)), by rw [e 43 (by decide)]; exact b2, b3, b4⟩, ⟨repI_fr b5 hf (hJ 45 (by decide)) (hK 21 (by decide)), by rw [e 46 (by decide)]; exact b6⟩, fun q => ?_, b8, by rw [e 36 (by decide), e 37 (by decide)]; exact b9, b10, b11⟩
  obtain ⟨c1, c2⟩ := b7 q
  exact ⟨repO_fr c1 hf (hJ 53 (by decide)) (hK 22 (by decide)) (hK 23 (by decide)) (hK 24 (by decide)) (hK 25 (by decide)) (hK 26 (by decide)), c2⟩
theorem m2_fr {S' : MS} {J K : List Nat} (h : M2 V S ps) (hf : mfr J K S S') (hJ : ∀ j, 34 ≤ j → j ∉ J) (hK : ∀ q, 17 ≤ q → q ∉ K) : M2 V S' ps := by
  obtain ⟨a1, a2, a3, a4, a5, a6, a7, a8, a9, a10, a11, a12, is, ni, b1, b2, b3, b4⟩ := h
  have e : ∀ j, 34 ≤ j → S'.1 j = S.1 j := fun j hj => hf.1 j (hJ j hj)
  exact ⟨a1, a2, by rw [e 34 (by decide)]; exact a3, by rw [e 35 (by decide)]; exact a4, a5, by rw [e 47 (by decide)]; exact a6, a7, a8, a9, a10, a11, a12, is, ni, repI_fr b1 hf (hJ 45 (by decide)) (hK 21 (by decide)), by rw [e 46 (by decide)]; exact b2, b3, b4⟩
theorem arr_fr {S' : MS} {J K : List Nat} (h : ArrS S) (hf : mfr J K S S') (hK : ∀ q, q = 8 ∨ 17 ≤ q → q ∉ K) : ArrS S' := by
  have e : ∀ q, q = 8 ∨ 17 ≤ q → S'.2 q = S.2 q := fun q hq => hf.2 q (hK q hq)
  unfold ArrS drOk lLen oLen
  rw [e 8 (by omega), e 17 (by omega), e 18 (by omega), e 19 (by omega), e 20 (by omega), e 21 (by omega), e 22 (by omega), e 23 (by omega), e 24 (by omega), e 25 (by omega), e 26 (by omega)]
  exact h
theorem rel_gi (h : Rel t V S ps) : GI V := by
  obtain ⟨⟨hF, hR, _⟩, ⟨_, _, r1, r2, r3, r4, r5⟩, ⟨hP, _⟩, _⟩ := h
  have hT := r1.1.2.2.1
  have pt := pcs_tot hF.1 hP.2.1
  refine ⟨⟨hF.1, fun v hv => ?_, by have := hF.2.2.1; omega, ?_⟩, ⟨hR.1, by have := r3.1.2; omega, fun r hr => ?_⟩, r4.2.1⟩
  · have := mem_tot hv
    omega
  · have h1 := col_len ps
    rw [hP.1]
    omega
  · obtain ⟨k1, x, P, W, q1, q2, q3, q4, q5, q6⟩ := hR.2.1 r hr
    have lx := mem_tot (fnd_mem q1).1
    have cl : ∀ n, n < 2 ^ 31 → (nI n).toNatClampNeg = n := by
      intro n hn
      show (nI n).toInt.toNat = n
      rw [nI_toInt hn]
      rfl
    rw [q2, q3, cl P (by omega), cl W (by omega)]
    exact ⟨q5, nI_pos (by omega), by omega, q4⟩
theorem rel_num (h : Rel t V S ps) (ht : t ≤ 600) : V.1.2.2.2.2.2.toInt ≤ 800000 := by
  have := h.1.2.2.2.1
  omega
theorem rel_szn (h : Rel t V S ps) : szF V.1.2.2.2.2.2 0 V.1.1 = 0 := by
  unfold szF
  cases hf : fndF V.1.2.2.2.2.2 0 V.1.1 with
  | none => rfl
  | some f =>
    obtain ⟨h1, h2, h3⟩ := fnd_mem hf
    have := (h.1.1.2.1 f h1).2.1.2
    rw [h2] at this
    omega
/-- the relation, where the reference only answered, and the class is the same -/
theorem rel_0 {v : Int32} (h : Rel t V S ps) : Rel t V (upI S 0 v) ps := by
  obtain ⟨a, ⟨b1, b2, r1, r2, r3, r4, r5⟩, c, d⟩ := h
  have f0 : mfr [0] [] S (upI S 0 v) := mfr_I (by decide)
  refine ⟨a, ⟨b1, arr_fr b2 f0 (fun q _ => List.not_mem_nil), repF_fr r1 f0 (by decide) (by decide) (by decide) (by decide) (by decide) (by decide), repP_fr r2 f0 (by decide) (by decide) (by decide) (by decide), repR_fr r3 f0 (by decide) (fun q _ _ => List.not_mem_nil), repT_fr r4 f0 (by decide) (by decide), repA_fr r5 f0 (by decide) (by decide)⟩, c, ?_⟩
  rcases d with d | d | d
  · exact Or.inl (m0_fr d f0 (by decide) (by decide))
  · exact Or.inr (Or.inl (m1_fr d f0 (fun j hj => by simp only [List.mem_cons, List.not_mem_nil, or_false]; omega) (fun q _ => List.not_mem_nil)))
  · exact Or.inr (Or.inr (m2_fr d f0 (fun j hj => by simp only [List.mem_cons, List.not_mem_nil, or_false]; omega) (fun q _ => List.not_mem_nil)))
theorem rel_t {t' : Nat} (h : Rel t V S ps) (ht : t ≤ t') : Rel t' V S ps := by
  obtain ⟨⟨a1, a2, a3, a4, a5, a6, a7, a8⟩, b⟩ := h
  exact ⟨⟨a1, a2, a3, ⟨a4.1, by have := a4.2; omega⟩, a5, a6, a7, by have := a8.1; omega, a8.2⟩, b⟩
/-- no merge is under way: it lies as a stop leaves it -/
theorem rel_quiet (h : Rel t V S ps) (c : V.2.2.1.1 = 0) : V.2.2.1.2.2.1 = -1 ∧ V.2.2.1.2.2.2.1 = -1 ∧ V.2.2.1.2.2.2.2.2.1 = 0 := by
  rcases h.2.2.2 with d | d | d
  · exact ⟨d.2.2.2.1, d.2.2.2.2.1, d.2.2.2.2.2.1⟩
  · exact absurd c (by rw [d.1]; decide)
  · exact absurd c (by rw [d.1]; decide)
/-- the store is not open: there is nothing left to forget -/
theorem rel_shut (h : Rel t V S ps) (c : V.2.2.2.2.1.1 = 0) : sForget V = V := by
  obtain ⟨c1, c2, c3⟩ := h.1.2.2.2.2.2.2.1 c
  have hr := h.1.2.1.2.2.2 c
  obtain ⟨q1, q2, q3⟩ := rel_quiet h c1
  clear h c
  obtain ⟨d, r, ⟨a, b, c, e, f, w, i⟩, o, ⟨k, ac, rest⟩, l⟩ := V
  have c1 : a = 0 := c1
  have c2 : b = 0 := c2
  have c3 : ac = -1 := c3
  have hr : r = [] := hr
  have q1 : c = -1 := q1
  have q2 : e = -1 := q2
  have q3 : w = 0 := q3
  subst c1 c2 c3 hr q1 q2 q3
  rfl
end
