/-! room: a merge that nothing else is done in, while it copies -/
def fmV (V : VC) : Nat := V.1.2.2.2.2.1.toNatClampNeg
def PhA (V : VC) (fs0 : List Sh) (x0 : Nat → Nat) (sz : List (Nat × Nat)) (cop rem : List AR) (gd cd : List Sh) : Prop :=
  (shF V.1.1 = fs0 ++ (gd ++ cd)) ∧
  (∀ p, stk V.1.2.1 p = x0 (p + (gd ++ cd).length)) ∧
  (V.2.2.1.1 = 1) ∧
  (V.2.2.1.2.2.2.1 = -1) ∧
  (V.2.2.2.2.1.2.1 = -1) ∧
  (∀ r, r ∈ V.2.1 ↔ r ∈ cop ∨ r ∈ rem) ∧
  (rem.Pairwise bhd) ∧
  (∀ r, r ∈ rem → r.2.1 < V.2.2.1.2.1) ∧
  (cop.Pairwise bhd) ∧
  (∀ r, r ∈ cop → ¬ r.2.1 < V.2.2.1.2.1) ∧
  (sz = cop.map se ++ rem.map se) ∧
  (Prs gd) ∧
  (∀ x, x ∈ fs0 → x.1 < V.2.2.1.2.1) ∧
  (∀ x, x ∈ gd ++ cd → ¬ x.1 < V.2.2.1.2.1) ∧
  ((cop = [] ∧ gd = [] ∧ cd = [] ∧ V.2.2.1.2.2.1 = -1) ∨ (cop ≠ [] ∧ ∃ c k, cd = [(V.2.2.1.2.2.1, 0, c, k)] ∧ 0 < c ∧ lens gd ++ cnt (fmV V) (rem.map se) c (V.2.2.1.2.2.2.2.2.2.length + 4) = cn0 (fmV V) sz ∧ ∀ r, r ∈ cop → r.2.1 < V.2.2.1.2.2.1 ∨ (r.2.1 = V.2.2.1.2.2.1 ∧ r.2.2.1.toInt < c))) ∧
  (capOK x0 (cn0 (fmV V) sz) (gd ++ cd))
section
variable {V : VC} {fs0 : List Sh} {x0 : Nat → Nat} {sz : List (Nat × Nat)} {cop rem : List AR} {gd cd : List Sh}
theorem PhA.sh (h : PhA V fs0 x0 sz cop rem gd cd) : shF V.1.1 = fs0 ++ (gd ++ cd) := h.1
theorem PhA.st (h : PhA V fs0 x0 sz cop rem gd cd) : ∀ p, stk V.1.2.1 p = x0 (p + (gd ++ cd).length) := h.2.1
theorem PhA.un (h : PhA V fs0 x0 sz cop rem gd cd) : V.2.2.1.1 = 1 := h.2.2.1
theorem PhA.mk (h : PhA V fs0 x0 sz cop rem gd cd) : V.2.2.1.2.2.2.1 = -1 := h.2.2.2.1
theorem PhA.act (h : PhA V fs0 x0 sz cop rem gd cd) : V.2.2.2.2.1.2.1 = -1 := h.2.2.2.2.1
theorem PhA.rws (h : PhA V fs0 x0 sz cop rem gd cd) : ∀ r, r ∈ V.2.1 ↔ r ∈ cop ∨ r ∈ rem := h.2.2.2.2.2.1
theorem PhA.rem1 (h : PhA V fs0 x0 sz cop rem gd cd) : rem.Pairwise bhd := h.2.2.2.2.2.2.1
theorem PhA.rem2 (h : PhA V fs0 x0 sz cop rem gd cd) : ∀ r, r ∈ rem → r.2.1 < V.2.2.1.2.1 := h.2.2.2.2.2.2.2.1
theorem PhA.cop1 (h : PhA V fs0 x0 sz cop rem gd cd) : cop.Pairwise bhd := h.2.2.2.2.2.2.2.2.1
theorem PhA.cop2 (h : PhA V fs0 x0 sz cop rem gd cd) : ∀ r, r ∈ cop → ¬ r.2.1 < V.2.2.1.2.1 := h.2.2.2.2.2.2.2.2.2.1
theorem PhA.szs (h : PhA V fs0 x0 sz cop rem gd cd) : sz = cop.map se ++ rem.map se := h.2.2.2.2.2.2.2.2.2.2.1
theorem PhA.gdp (h : PhA V fs0 x0 sz cop rem gd cd) : Prs gd := h.2.2.2.2.2.2.2.2.2.2.2.1
theorem PhA.lo (h : PhA V fs0 x0 sz cop rem gd cd) : ∀ x, x ∈ fs0 → x.1 < V.2.2.1.2.1 := h.2.2.2.2.2.2.2.2.2.2.2.2.1
theorem PhA.hi (h : PhA V fs0 x0 sz cop rem gd cd) : ∀ x, x ∈ gd ++ cd → ¬ x.1 < V.2.2.1.2.1 := h.2.2.2.2.2.2.2.2.2.2.2.2.2.1
theorem PhA.cur (h : PhA V fs0 x0 sz cop rem gd cd) : (cop = [] ∧ gd = [] ∧ cd = [] ∧ V.2.2.1.2.2.1 = -1) ∨ (cop ≠ [] ∧ ∃ c k, cd = [(V.2.2.1.2.2.1, 0, c, k)] ∧ 0 < c ∧ lens gd ++ cnt (fmV V) (rem.map se) c (V.2.2.1.2.2.2.2.2.2.length + 4) = cn0 (fmV V) sz ∧ ∀ r, r ∈ cop → r.2.1 < V.2.2.1.2.2.1 ∨ (r.2.1 = V.2.2.1.2.2.1 ∧ r.2.2.1.toInt < c)) := h.2.2.2.2.2.2.2.2.2.2.2.2.2.2.1
theorem PhA.cps (h : PhA V fs0 x0 sz cop rem gd cd) : capOK x0 (cn0 (fmV V) sz) (gd ++ cd) := h.2.2.2.2.2.2.2.2.2.2.2.2.2.2.2
end
/-- a unit that copies, piece by piece -/
theorem du_proj {V : VC} {j : Nat} {r : AR} {f : AF} (hm : V.2.2.1.2.2.2.1 = -1) (hx : nxB V.2.1 V.2.2.1.2.1 none = some j) (hr : V.2.1[j]? = some r) (hf : fndF r.2.1 0 (cpA r V).1.1.1 = some f) : (duV V).1.1.1 = (appF (cpA r V).1.2.2.1.2.2.1 0 ((f.2.2.1.drop r.2.2.1.toNatClampNeg).take (rcn r)) (cpA r V).1.1.1 (cpA r V).1.1.2.1).1 ∧ (duV V).1.1.2.1 = (appF (cpA r V).1.2.2.1.2.2.1 0 ((f.2.2.1.drop r.2.2.1.toNatClampNeg).take (rcn r)) (cpA r V).1.1.1 (cpA r V).1.1.2.1).2.1 ∧ (duV V).1.1.2.2.2.2.1 = (cpA r V).1.1.2.2.2.2.1 ∧ (duV V).1.2.1 = V.2.1.set j (r.1, (cpA r V).1.2.2.1.2.2.1, cpP r V, r.2.2.2.1, r.2.2.2.2) ∧ (duV V).1.2.2.1.1 = (cpA r V).1.2.2.1.1 ∧ (duV V).1.2.2.1.2.1 = (cpA r V).1.2.2.1.2.1 ∧ (duV V).1.2.2.1.2.2.1 = (cpA r V).1.2.2.1.2.2.1 ∧ (duV V).1.2.2.1.2.2.2.1 = (cpA r V).1.2.2.1.2.2.2.1 ∧ (duV V).1.2.2.2.2.1.2.1 = (cpA r V).1.2.2.2.2.1.2.1 ∧ (duV V).1.2.2.1.2.2.2.2.2.2 = (if cpP r V = 0 then be4 0 ++ entB (r.1, (cpA r V).1.2.2.1.2.2.1, cpP r V, r.2.2.2.1, r.2.2.2.2) else (cpA r V).1.2.2.1.2.2.2.2.2.2 ++ entB (r.1, (cpA r V).1.2.2.1.2.2.1, cpP r V, r.2.2.2.1, r.2.2.2.2)) ∧ (duV V).2 = (cpA r V).2 + (appF (cpA r V).1.2.2.1.2.2.1 0 ((f.2.2.1.drop r.2.2.1.toNatClampNeg).take (rcn r)) (cpA r V).1.1.1 (cpA r V).1.1.2.1).2.2 := by
  have eD := du_copy hm hx hr hf
  have n := nh_disk (r.1, (cpA r V).1.2.2.1.2.2.1, cpP r V, r.2.2.2.1, r.2.2.2.2) (sRr (telR j (cpA r V).1.2.2.1.2.2.1 (cpP r V) r.2.2.2.1 r.2.2.2.2 V.2.1) (cpB r f (cpA r V).1))
  rw [eD]
  refine ⟨congrArg (fun D : VD => D.1) n.1, congrArg (fun D : VD => D.2.1) n.1, (by have q := congrArg (fun D : VD => D.2.2.2.2.1) n.1; exact q), ?_, n.2.2.1, n.2.2.2.1, n.2.2.2.2.1, n.2.2.2.2.2.1, congrArg (fun x : VO × VK × VT => x.2.1.2.1) n.2.2.2.2.2.2.2, ?_, rfl⟩
  · refine n.2.1.trans ?_
    show telR _ _ _ _ _ _ = _
    rw [telR_set hr]
  · unfold nhV
    by_cases c : cpP r V = 0
    · rw [if_pos c, if_pos c]
      rfl
    · rw [if_neg c, if_neg c]
      rfl
theorem bhd_new {a b : AR} (h : a.2.1.toInt < b.2.1.toInt ∨ (a.2.1.toInt = b.2.1.toInt ∧ a.2.2.1.toInt < b.2.2.1.toInt)) : bhd a b := Or.inl (lies_iff.mpr h)
section
variable {t t' : Nat} {V : VC} {S S' : MS} {ps ps' : List AV} {C C' : Int} {fs0 : List Sh} {x0 : Nat → Nat} {sz : List (Nat × Nat)} {cop rem : List AR} {gd cd : List Sh} {r : AR}
theorem phA_next (hA : PhA V fs0 x0 sz cop (r :: rem) gd cd) (h : RelB t C V S ps) : nxB V.2.1 V.2.2.1.2.1 none = some (plR r.1 V.2.1) ∧ V.2.1[plR r.1 V.2.1]? = some r := by
  refine nxB_some (oa := none) h.1.2.1.1 (fun j q => by cases q) (fun _ => rfl) ⟨(hA.rws r).mpr (Or.inr List.mem_cons_self), hA.rem2 r List.mem_cons_self, fun q e => by cases e⟩ (fun x hx => ?_)
  rcases (hA.rws x).mp hx.1 with z | z
  · exact absurd hx.2.1 (hA.cop2 x z)
  · rcases List.mem_cons.mp z with w | w
    · exact Or.inl w
    · exact Or.inr ((List.pairwise_cons.mp hA.rem1).1 x w)
/-- the rows behind a copy -/
theorem phA_rows {o q : Int32} (hA : PhA V fs0 x0 sz cop (r :: rem) gd cd) (h : RelB t C V S ps) : ∀ x, x ∈ V.2.1.set (plR r.1 V.2.1) (r.1, o, q, r.2.2.2.1, r.2.2.2.2) ↔ x ∈ cop ++ [(r.1, o, q, r.2.2.2.1, r.2.2.2.2)] ∨ x ∈ rem := by
  have hr := (phA_next hA h).2
  have hS := h.1.2.1.1
  have hnd : ∀ x, x ∈ rem → x ≠ r := fun x hx e => by
    have := (List.pairwise_cons.mp hA.rem1).1 x hx
    rw [e] at this
    exact bhd_ne this rfl
  intro x
  constructor
  · intro hx
    rcases set_mem hS hr hx with z | ⟨z1, z2⟩
    · exact Or.inl (List.mem_append.mpr (Or.inr (List.mem_singleton.mpr z)))
    · rcases (hA.rws x).mp z1 with w | w
      · exact Or.inl (List.mem_append.mpr (Or.inl w))
      · rcases List.mem_cons.mp w with y | y
        · exact absurd y z2
        · exact Or.inr y
  · intro hx
    have old : x ∈ V.2.1 → x ≠ r → x ∈ V.2.1.set (plR r.1 V.2.1) (r.1, o, q, r.2.2.2.1, r.2.2.2.2) := by
      intro h1 h2
      rw [set_split hr]
      have e := take_at hr
      rw [e] at h1
      rcases List.mem_append.mp h1 with z | z
      · exact List.mem_append.mpr (Or.inl z)
      · rcases List.mem_cons.mp z with w | w
        · exact absurd w h2
        · exact List.mem_append.mpr (Or.inr (List.mem_cons_of_mem _ w))
    rcases hx with z | z
    · rcases List.mem_append.mp z with w | w
      · refine old ((hA.rws x).mpr (Or.inl w)) (fun e => hA.cop2 x w ?_)
        rw [e]
        exact hA.rem2 r List.mem_cons_self
      · rw [List.mem_singleton.mp w, set_split hr]
        exact List.mem_append.mpr (Or.inr List.mem_cons_self)
    · exact old ((hA.rws x).mpr (Or.inr (List.mem_cons_of_mem _ z))) (hnd x z)
theorem cop_add {cop : List AR} {r' : AR} (h : cop.Pairwise bhd) (h2 : ∀ x, x ∈ cop → bhd x r') : (cop ++ [r']).Pairwise bhd := by
  refine List.pairwise_append.mpr ⟨h, List.pairwise_singleton _ _, fun x hx y hy => ?_⟩
  rw [List.mem_singleton.mp hy]
  exact h2 x hx
theorem getD_mid (a b : List Nat) (n : Nat) (h : n = a.length) (k : Nat) : (a ++ b).getD (n + k) 0 = b.getD k 0 := by
  rw [List.getD_eq_getElem?_getD, List.getD_eq_getElem?_getD, List.getElem?_append_right (by omega)]
  rw [show n + k - a.length = k by omega]
theorem hin_len (hh : 4 ≤ V.2.2.1.2.2.2.2.2.2.length) : (hinC V).length = V.2.2.1.2.2.2.2.2.2.length + 4 := by
  unfold hinC hinB
  rw [List.length_append, List.length_append, be4_len, be4_len, List.length_drop]
  omega
theorem phA_copy (hA : PhA V fs0 x0 sz cop (r :: rem) gd cd) (h : RelB t C V S ps) (hg : UG V) : ∃ r' gd' cd', PhA (duV V).1 fs0 x0 sz (cop ++ [r']) rem gd' cd' ∧ ((∀ p, p < (cn0 (fmV V) sz).length → (cn0 (fmV V) sz).getD p 0 ≤ x0 p) → (duV V).2 = 0) := by
  obtain ⟨hx, hr⟩ := phA_next hA h
  have hg2 := hg.2
  rw [if_pos hA.mk, hx] at hg2
  simp only [Option.bind_some, hr, Option.map_some] at hg2
  obtain ⟨g4, _, _, f, hf, hfl, _⟩ := hg2
  have hpl : ((f.2.2.1.drop r.2.2.1.toNatClampNeg).take (rcn r)).length = rcn r := by rw [List.length_take, List.length_drop]; omega
  obtain ⟨p1, p2, p3, p4, p5, p6, p7, p8, p9, p10, p11⟩ := du_proj hA.mk hx hr hf
  have hrc := rel_rcb h (List.mem_of_getElem? hr)
  obtain ⟨hnx, hnf, hac⟩ := nx_free h
  obtain ⟨⟨⟨f1, f2, f3, f4, f5, f6⟩, hW, hC⟩, _⟩ := id h
  have hM := m1_of h hA.un hA.mk
  obtain ⟨a1, a2, a3, a4, ⟨l1, l2, l3⟩, a6, ms, nl, os, R, _, _, b7, b8, b9, b10, b11⟩ := hM
  have hlt : ∀ b, allLt V.1.2.2.2.2.2 b V.1.1 := fun b g hg => Or.inl (Int32.lt_iff_toInt_lt.mpr (f2 g hg).2.1.2)
  have hnli : ¬ V.1.2.2.2.2.2 < V.2.2.1.2.1 := by
    rw [Int32.lt_iff_toInt_lt]
    omega
  generalize hpt : (f.2.2.1.drop r.2.2.1.toNatClampNeg).take (rcn r) = part at *
  have hse : ∀ o q : Int32, se (r.1, o, q, r.2.2.2.1, r.2.2.2.2) = se r := fun _ _ => rfl
  have hszs : ∀ o q : Int32, sz = (cop ++ [(r.1, o, q, r.2.2.2.1, r.2.2.2.2)]).map se ++ rem.map se := by
    intro o q
    rw [hA.szs, List.map_append, List.map_cons, List.append_assoc]
    rfl
  rcases hA.cur with ⟨c1, c2, c3, c4⟩ | ⟨c0, c, k, c1, c2, c3, c4⟩
  · have ecw : cpW r V = true := decide_eq_true (Or.inl c4)
    have ecA : cpA r V = (tak6 V, 0) := by
      unfold cpA
      rw [ecw]
      unfold whV
      rw [if_pos c4]
    have ecP : cpP r V = 0 := by
      unfold cpP
      rw [ecw]
    rw [ecA] at p1 p2 p3 p4 p5 p6 p7 p8 p9 p10 p11
    rw [ecP] at p4 p10
    rw [if_pos rfl] at p10
    have ap : appF V.1.2.2.2.2.2 0 part V.1.1 V.1.2.1 = _ := app_new (hlt 0)
    have p1 : (duV V).1.1.1 = (appF V.1.2.2.2.2.2 0 part V.1.1 V.1.2.1).1 := p1
    have p2 : (duV V).1.1.2.1 = (appF V.1.2.2.2.2.2 0 part V.1.1 V.1.2.1).2.1 := p2
    have p11 : (duV V).2 = 0 + (appF V.1.2.2.2.2.2 0 part V.1.1 V.1.2.1).2.2 := p11
    have p3 : fmV (duV V).1 = fmV V := congrArg Int32.toNatClampNeg p3
    have p4 : (duV V).1.2.1 = V.2.1.set (plR r.1 V.2.1) (r.1, V.1.2.2.2.2.2, 0, r.2.2.2.1, r.2.2.2.2) := p4
    have p5 : (duV V).1.2.2.1.1 = V.2.2.1.1 := p5
    have p6 : (duV V).1.2.2.1.2.1 = V.2.2.1.2.1 := p6
    have p7 : (duV V).1.2.2.1.2.2.1 = V.1.2.2.2.2.2 := p7
    have p8 : (duV V).1.2.2.1.2.2.2.1 = V.2.2.1.2.2.2.1 := p8
    have p9 : (duV V).1.2.2.2.2.1.2.1 = V.2.2.2.2.1.2.1 := p9
    rw [ap] at p1 p2 p11
    subst c1 c2 c3
    have hsh := hA.sh
    have hst := hA.st
    have hcps := hA.cps
    have hσ : cn0 (fmV V) sz = cnt (fmV V) (rem.map se) (rcn r) (8 + ecn r) := by
      rw [hA.szs]
      rfl
    have eL : lastC V.1.2.1 = x0 0 := by rw [stk_last]; exact hst 0
    obtain ⟨d, e, tl, y1, y2, y3⟩ := cnt_hd (fmV V) (rem.map se) (rcn r) (8 + ecn r)
    have g0 : rcn r ≤ (cn0 (fmV V) sz).getD 0 0 := by
      rw [hσ, y1]
      exact y2
    obtain ⟨k1, k2⟩ := capOK_new (gs := []) (a := V.1.2.2.2.2.2) (b := 0) hcps g0
    refine ⟨(r.1, V.1.2.2.2.2.2, 0, r.2.2.2.1, r.2.2.2.2), [], [(V.1.2.2.2.2.2, 0, rcn r, gcap (x0 0) (rcn r))], ⟨?_, ?_, p5.trans hA.un, p8.trans hA.mk, p9.trans hA.act, ?_, (List.pairwise_cons.mp hA.rem1).2, ?_, List.pairwise_singleton _ _, ?_, hszs _ _, trivial, ?_, ?_, Or.inr ⟨List.cons_ne_nil _ _, rcn r, gcap (x0 0) (rcn r), by rw [p7], by omega, ?_, ?_⟩, ?_⟩, fun q => ?_⟩
    · rw [p1, sh_app, hsh, ← eL]
      show fs0 ++ ([] ++ []) ++ [(V.1.2.2.2.2.2, 0, ([] ++ part).length, gcap (lastC V.1.2.1) ([] ++ part).length)] = _
      rw [List.nil_append, List.nil_append, List.append_nil, hpl]
      rfl
    · intro p
      rw [p2]
      show stk V.1.2.1.dropLast p = _
      rw [stk_drop, hst]
      rfl
    · rw [p4]
      exact phA_rows hA h
    · rw [p6]
      exact fun x hx => hA.rem2 x (List.mem_cons_of_mem _ hx)
    · rw [p6]
      intro x hx
      rw [List.mem_singleton.mp hx]
      exact hnli
    · rw [p6]
      exact hA.lo
    · rw [p6]
      intro x hx
      rw [List.mem_singleton.mp hx]
      exact hnli
    · rw [p3, hσ, p10, List.length_append, be4_len, entB_len]
      show [] ++ cnt _ _ _ _ = _
      rw [List.nil_append]
      have : 4 + (14 + r.1.length) + 4 = 8 + ecn r := by unfold ecn; omega
      rw [this]
    · intro x hx
      rw [List.mem_singleton.mp hx, p7]
      exact Or.inr ⟨rfl, by rw [Int32.toInt_zero]; omega⟩
    · rw [p3]
      exact k1
    · rw [p11]
      show 0 + grw (lastC V.1.2.1) part.length = 0
      rw [hpl, eL, Nat.zero_add]
      exact k2 (q 0 (by rw [hσ, y1]; exact Nat.succ_pos _))
  · have hsh := hA.sh
    rw [c1, ← List.append_assoc] at hsh
    obtain ⟨xs, f0, e1, e2, e3⟩ := sh_one hsh
    have z1 : f0.1 = V.2.2.1.2.2.1 := congrArg (fun x : Sh => x.1) e3
    have z2 : f0.2.1 = 0 := congrArg (fun x : Sh => x.2.1) e3
    have z3 : f0.2.2.1.length = c := congrArg (fun x : Sh => x.2.2.1) e3
    have z4 : f0.2.2.2.1 = k := congrArg (fun x : Sh => x.2.2.2) e3
    have hmem : f0 ∈ V.1.1 := by rw [e1]; exact List.mem_append.mpr (Or.inr List.mem_cons_self)
    have hfo := fnd_uniq f1 hmem
    rw [z1, z2] at hfo
    have hsz : szF V.2.2.1.2.2.1 0 V.1.1 = c := by
      unfold szF
      rw [hfo]
      exact z3
    have hout : V.2.2.1.2.2.1 ≠ -1 := fun q => by
      have := (f2 f0 hmem).2.1.1
      rw [z1, q] at this
      exact absurd this (by decide)
    have o := b7 hout
    have oF := o.2.2.2.2.1.2
    rw [hsz] at oF
    have olt := o.2.2.2.2.2.1.2
    have hxs : allLt V.2.2.1.2.2.1 0 xs := srt_lt (ys := []) (by rw [← e1]; exact f1) z1 z2
    have hcw : V.1.2.2.2.2.1 < nI (szF V.2.2.1.2.2.1 0 V.1.1) + rcb r ↔ fmV V < c + rcn r := by
      rw [hsz, hrc.1]
      exact fm_lt (by omega) (by omega) (by omega)
    have hst := hA.st
    rw [c1] at hst
    have hcps := hA.cps
    rw [c1] at hcps
    have hgl : (lens gd).length = gd.length := List.length_map _
    have hhb : 4 ≤ V.2.2.1.2.2.2.2.2.2.length := by
      rw [o.2.2.1, List.length_append, be4_len]
      omega
    by_cases hfit : c + rcn r ≤ fmV V
    · have ecw : cpW r V = false := decide_eq_false (by
        rintro (q | q)
        · exact hout q
        · have := hcw.mp q
          omega)
      have ecA : cpA r V = (V, 0) := by
        unfold cpA
        rw [ecw]
      have ecP : cpP r V = nI c := by
        unfold cpP
        rw [ecw, ← hsz]
      have ecP0 : ¬ nI c = 0 := fun q => by
        have := nI_inj2 (b := 0) q (by omega) (by omega)
        omega
      rw [ecA] at p1 p2 p3 p4 p5 p6 p7 p8 p9 p10 p11
      rw [ecP] at p4 p10
      rw [if_neg ecP0] at p10
      have p1 : (duV V).1.1.1 = (appF V.2.2.1.2.2.1 0 part V.1.1 V.1.2.1).1 := p1
      have p2 : (duV V).1.1.2.1 = (appF V.2.2.1.2.2.1 0 part V.1.1 V.1.2.1).2.1 := p2
      have p11 : (duV V).2 = 0 + (appF V.2.2.1.2.2.1 0 part V.1.1 V.1.2.1).2.2 := p11
      have p3 : fmV (duV V).1 = fmV V := congrArg Int32.toNatClampNeg p3
      have p4 : (duV V).1.2.1 = V.2.1.set (plR r.1 V.2.1) (r.1, V.2.2.1.2.2.1, nI c, r.2.2.2.1, r.2.2.2.2) := p4
      have p5 : (duV V).1.2.2.1.1 = V.2.2.1.1 := p5
      have p6 : (duV V).1.2.2.1.2.1 = V.2.2.1.2.1 := p6
      have p7 : (duV V).1.2.2.1.2.2.1 = V.2.2.1.2.2.1 := p7
      have p8 : (duV V).1.2.2.1.2.2.2.1 = V.2.2.1.2.2.2.1 := p8
      have p9 : (duV V).1.2.2.2.2.1.2.1 = V.2.2.2.2.1.2.1 := p9
      have ap : appF V.2.2.1.2.2.1 0 part (xs ++ [f0]) V.1.2.1 = _ := app_last hxs z1 z2
      rw [e1, ap] at p1 p2 p11
      have hcn : cnt (fmV V) ((r :: rem).map se) c (V.2.2.1.2.2.2.2.2.2.length + 4) = cnt (fmV V) (rem.map se) (c + rcn r) (V.2.2.1.2.2.2.2.2.2.length + 4 + ecn r) := if_pos hfit
      rw [hcn] at c3
      obtain ⟨d, e, tl, y1, y2, y3⟩ := cnt_hd (fmV V) (rem.map se) (c + rcn r) (V.2.2.1.2.2.2.2.2.2.length + 4 + ecn r)
      have g0 : c + rcn r ≤ (cn0 (fmV V) sz).getD gd.length 0 := by
        have := getD_mid (lens gd) (d :: e :: tl) gd.length hgl.symm 0
        rw [← c3, y1]
        rw [Nat.add_zero] at this
        rw [this]
        exact y2
      obtain ⟨k1, k2⟩ := capOK_last hcps g0
      refine ⟨(r.1, V.2.2.1.2.2.1, nI c, r.2.2.2.1, r.2.2.2.2), gd, [(V.2.2.1.2.2.1, 0, c + rcn r, gcap k (c + rcn r))], ⟨?_, ?_, p5.trans hA.un, p8.trans hA.mk, p9.trans hA.act, ?_, (List.pairwise_cons.mp hA.rem1).2, ?_, cop_add hA.cop1 (fun x hx => bhd_new ?_), ?_, hszs _ _, hA.gdp, ?_, ?_, Or.inr ⟨by simp, c + rcn r, gcap k (c + rcn r), by rw [p7], by omega, ?_, ?_⟩, ?_⟩, fun q => ?_⟩
      · rw [p1, sh_app, e2, List.append_assoc]
        show fs0 ++ (gd ++ [(f0.1, f0.2.1, (f0.2.2.1 ++ part).length, gcap f0.2.2.2.1 (f0.2.2.1 ++ part).length)]) = _
        rw [List.length_append, z1, z2, z3, z4, hpl]
      · intro p
        rw [p2]
        show stk V.1.2.1 p = _
        rw [hst, List.length_append, List.length_append]
        rfl
      · rw [p4]
        exact phA_rows hA h
      · rw [p6]
        exact fun x hx => hA.rem2 x (List.mem_cons_of_mem _ hx)
      · show x.2.1.toInt < V.2.2.1.2.2.1.toInt ∨ (x.2.1.toInt = V.2.2.1.2.2.1.toInt ∧ x.2.2.1.toInt < (nI c).toInt)
        rw [nI_toInt (by omega)]
        rcases c4 x hx with w | w
        · exact Or.inl (Int32.lt_iff_toInt_lt.mp w)
        · exact Or.inr ⟨by rw [w.1], w.2⟩
      · rw [p6]
        intro x hx
        rcases List.mem_append.mp hx with w | w
        · exact hA.cop2 x w
        · rw [List.mem_singleton.mp w]
          show ¬ V.2.2.1.2.2.1 < V.2.2.1.2.1
          rw [Int32.lt_iff_toInt_lt]
          have := o.2.2.2.2.2.1.1
          omega
      · rw [p6]
        exact hA.lo
      · rw [p6]
        intro x hx
        rcases List.mem_append.mp hx with w | w
        · exact hA.hi x (List.mem_append.mpr (Or.inl w))
        · rw [List.mem_singleton.mp w]
          show ¬ V.2.2.1.2.2.1 < V.2.2.1.2.1
          rw [Int32.lt_iff_toInt_lt]
          have := o.2.2.2.2.2.1.1
          omega
      · rw [p3, p10, List.length_append, entB_len, ← c3]
        have : V.2.2.1.2.2.2.2.2.2.length + (14 + r.1.length) + 4 = V.2.2.1.2.2.2.2.2.2.length + 4 + ecn r := by unfold ecn; omega
        rw [this]
      · intro x hx
        rw [p7]
        rcases List.mem_append.mp hx with w | w
        · rcases c4 x w with y | y
          · exact Or.inl y
          · exact Or.inr ⟨y.1, by omega⟩
        · rw [List.mem_singleton.mp w]
          refine Or.inr ⟨rfl, ?_⟩
          show (nI c).toInt < _
          rw [nI_toInt (by omega)]
          omega
      · rw [p3]
        exact k1
      · rw [p11]
        show 0 + grw f0.2.2.2.1 (f0.2.2.1.length + part.length) = 0
        rw [hpl, z3, z4, Nat.zero_add]
        refine k2 (q gd.length ?_)
        rw [← c3, y1, List.length_append, hgl]
        exact Nat.lt_add_of_pos_right (Nat.succ_pos _)
    · have ecw : cpW r V = true := decide_eq_true (Or.inr (hcw.mpr (by omega)))
      have ecA : cpA r V = (tak6 (whV V).1, (whV V).2) := by
        unfold cpA
        rw [ecw]
      have ecP : cpP r V = 0 := by
        unfold cpP
        rw [ecw]
      have ap1 : appF V.2.2.1.2.2.1 1 (hinC V) V.1.1 V.1.2.1 = _ := app_new (by
        rw [e1]
        intro g hg
        rcases List.mem_append.mp hg with w | w
        · rcases hxs g w with y | y
          · exact Or.inl y
          · refine Or.inr ⟨y.1, ?_⟩
            have := y.2
            rw [Int32.lt_iff_toInt_lt, Int32.toInt_zero] at this
            rw [Int32.lt_iff_toInt_lt, li1]
            omega
        · rw [List.mem_singleton.mp w]
          exact Or.inr ⟨z1, by rw [z2]; decide⟩)
      have ewh : whV V = (si809 (V.2.2.1.2.2.2.2.2.1 - nI (hinC V).length) (sDd (vApp V.2.2.1.2.2.1 1 (hinC V) V.1) (sB17 (hinC V) V)), (appF V.2.2.1.2.2.1 1 (hinC V) V.1.1 V.1.2.1).2.2) := by
        unfold whV
        rw [if_neg hout]
      rw [ecA, ewh] at p1 p2 p3 p4 p5 p6 p7 p8 p9 p10 p11
      rw [ecP] at p4 p10
      rw [if_pos rfl] at p10
      have p1 : (duV V).1.1.1 = (appF V.1.2.2.2.2.2 0 part (appF V.2.2.1.2.2.1 1 (hinC V) V.1.1 V.1.2.1).1 (appF V.2.2.1.2.2.1 1 (hinC V) V.1.1 V.1.2.1).2.1).1 := p1
      have p2 : (duV V).1.1.2.1 = (appF V.1.2.2.2.2.2 0 part (appF V.2.2.1.2.2.1 1 (hinC V) V.1.1 V.1.2.1).1 (appF V.2.2.1.2.2.1 1 (hinC V) V.1.1 V.1.2.1).2.1).2.1 := p2
      have p11 : (duV V).2 = (appF V.2.2.1.2.2.1 1 (hinC V) V.1.1 V.1.2.1).2.2 + (appF V.1.2.2.2.2.2 0 part (appF V.2.2.1.2.2.1 1 (hinC V) V.1.1 V.1.2.1).1 (appF V.2.2.1.2.2.1 1 (hinC V) V.1.1 V.1.2.1).2.1).2.2 := p11
      have p3 : fmV (duV V).1 = fmV V := congrArg Int32.toNatClampNeg p3
      have p4 : (duV V).1.2.1 = V.2.1.set (plR r.1 V.2.1) (r.1, V.1.2.2.2.2.2, 0, r.2.2.2.1, r.2.2.2.2) := p4
      have p5 : (duV V).1.2.2.1.1 = V.2.2.1.1 := p5
      have p6 : (duV V).1.2.2.1.2.1 = V.2.2.1.2.1 := p6
      have p7 : (duV V).1.2.2.1.2.2.1 = V.1.2.2.2.2.2 := p7
      have p8 : (duV V).1.2.2.1.2.2.2.1 = V.2.2.1.2.2.2.1 := p8
      have p9 : (duV V).1.2.2.2.2.1.2.1 = V.2.2.2.2.1.2.1 := p9
      rw [ap1] at p1 p2 p11
      dsimp only at p1 p2 p11
      have ap2 : appF V.1.2.2.2.2.2 0 part (V.1.1 ++ [upF (hinC V) (V.2.2.1.2.2.1, 1, [], lastC V.1.2.1, 0)]) V.1.2.1.dropLast = _ := app_new (by
        intro g hg
        rcases List.mem_append.mp hg with w | w
        · exact hlt 0 g w
        · rw [List.mem_singleton.mp w]
          exact Or.inl (Int32.lt_iff_toInt_lt.mpr olt))
      rw [ap2] at p1 p2 p11
      dsimp only at p1 p2 p11
      have hhl := hin_len hhb
      have hcn : cnt (fmV V) ((r :: rem).map se) c (V.2.2.1.2.2.2.2.2.2.length + 4) = c :: (V.2.2.1.2.2.2.2.2.2.length + 4) :: cnt (fmV V) (rem.map se) (rcn r) (8 + ecn r) := if_neg hfit
      rw [hcn, ← hhl] at c3
      obtain ⟨d, e, tl, y1, y2, y3⟩ := cnt_hd (fmV V) (rem.map se) (rcn r) (8 + ecn r)
      have hl1 : (gd ++ [(V.2.2.1.2.2.1, (0 : Int32), c, k)]).length = gd.length + 1 := by rw [List.length_append]; rfl
      have g1 : (cn0 (fmV V) sz).getD (gd.length + 1) 0 = (hinC V).length := by
        rw [← c3]
        exact getD_mid (lens gd) _ gd.length hgl.symm 1
      have g2 : (cn0 (fmV V) sz).getD (gd.length + 2) 0 = d := by
        rw [← c3, y1]
        exact getD_mid (lens gd) _ gd.length hgl.symm 2
      have hln : gd.length + 2 < (cn0 (fmV V) sz).length := by
        rw [← c3, y1, List.length_append, hgl]
        show gd.length + 2 < gd.length + (tl.length + 1 + 1 + 1 + 1)
        omega
      obtain ⟨k1, k2⟩ := capOK_new (a := V.2.2.1.2.2.1) (b := 1) (n := (hinC V).length) hcps (by rw [hl1, g1]; exact Nat.le_refl _)
      have hl2 : (gd ++ [(V.2.2.1.2.2.1, (0 : Int32), c, k)] ++ [(V.2.2.1.2.2.1, (1 : Int32), (hinC V).length, gcap (x0 (gd ++ [(V.2.2.1.2.2.1, (0 : Int32), c, k)]).length) (hinC V).length)]).length = gd.length + 2 := by rw [List.length_append, hl1]; rfl
      obtain ⟨k3, k4⟩ := capOK_new (a := V.1.2.2.2.2.2) (b := 0) (n := rcn r) k1 (by rw [hl2, g2]; exact y2)
      rw [hl2] at k3 k4
      rw [hl1] at k1 k2 k3
      have s0 : lastC V.1.2.1 = x0 (gd.length + 1) := by
        rw [stk_last, hst, hl1, Nat.zero_add]
      have s1 : lastC V.1.2.1.dropLast = x0 (gd.length + 2) := by
        rw [stk_last, stk_drop, hst, hl1]
        congr 1
        omega
      refine ⟨(r.1, V.1.2.2.2.2.2, 0, r.2.2.2.1, r.2.2.2.2), gd ++ [(V.2.2.1.2.2.1, 0, c, k)] ++ [(V.2.2.1.2.2.1, 1, (hinC V).length, gcap (x0 (gd.length + 1)) (hinC V).length)], [(V.1.2.2.2.2.2, 0, rcn r, gcap (x0 (gd.length + 2)) (rcn r))], ⟨?_, ?_, p5.trans hA.un, p8.trans hA.mk, p9.trans hA.act, ?_, (List.pairwise_cons.mp hA.rem1).2, ?_, cop_add hA.cop1 (fun x hx => bhd_new (Or.inl ?_)), ?_, hszs _ _, ?_, ?_, ?_, Or.inr ⟨by simp, rcn r, gcap (x0 (gd.length + 2)) (rcn r), by rw [p7], by omega, ?_, ?_⟩, ?_⟩, fun q => ?_⟩
      · rw [p1, sh_app, sh_app, hsh]
        show fs0 ++ gd ++ [(V.2.2.1.2.2.1, 0, c, k)] ++ [(V.2.2.1.2.2.1, 1, ([] ++ hinC V).length, gcap (lastC V.1.2.1) ([] ++ hinC V).length)] ++ [(V.1.2.2.2.2.2, 0, ([] ++ part).length, gcap (lastC V.1.2.1.dropLast) ([] ++ part).length)] = _
        rw [s0, s1, List.nil_append, List.nil_append, hpl]
        simp only [List.append_assoc]
      · intro p
        rw [p2]
        show stk V.1.2.1.dropLast.dropLast p = _
        rw [stk_drop, stk_drop, hst, hl1]
        congr 1
        rw [List.length_append, List.length_append, hl1]
        show p + 1 + 1 + (gd.length + 1) = p + (gd.length + 1 + 1 + 1)
        omega
      · rw [p4]
        exact phA_rows hA h
      · rw [p6]
        exact fun x hx => hA.rem2 x (List.mem_cons_of_mem _ hx)
      · show x.2.1.toInt < V.1.2.2.2.2.2.toInt
        rcases c4 x hx with w | w
        · rw [Int32.lt_iff_toInt_lt] at w
          omega
        · rw [w.1]
          exact olt
      · rw [p6]
        intro x hx
        rcases List.mem_append.mp hx with w | w
        · exact hA.cop2 x w
        · rw [List.mem_singleton.mp w]
          exact hnli
      · rw [List.append_assoc]
        exact prs_app hA.gdp ⟨⟨rfl, rfl, rfl⟩, trivial⟩
      · rw [p6]
        exact hA.lo
      · rw [p6]
        have hol : ¬ V.2.2.1.2.2.1 < V.2.2.1.2.1 := by
          rw [Int32.lt_iff_toInt_lt]
          have := o.2.2.2.2.2.1.1
          omega
        intro x hx
        simp only [List.append_assoc, List.mem_append, List.mem_singleton] at hx
        rcases hx with w | w | w | w
        · exact hA.hi x (List.mem_append.mpr (Or.inl w))
        · rw [w]
          exact hol
        · rw [w]
          exact hol
        · rw [w]
          exact hnli
      · rw [p3, p10, List.length_append, be4_len, entB_len, ← c3, lens_app, lens_app]
        have : 4 + (14 + r.1.length) + 4 = 8 + ecn r := by unfold ecn; omega
        rw [this, List.append_assoc, List.append_assoc]
        rfl
      · intro x hx
        rw [p7]
        rcases List.mem_append.mp hx with w | w
        · refine Or.inl ?_
          rw [Int32.lt_iff_toInt_lt]
          rcases c4 x w with y | y
          · rw [Int32.lt_iff_toInt_lt] at y
            omega
          · rw [y.1]
            exact olt
        · rw [List.mem_singleton.mp w]
          exact Or.inr ⟨rfl, by rw [Int32.toInt_zero]; omega⟩
      · rw [p3]
        exact k3
      · rw [p11]
        rw [s0, s1, hpl, k2 (q (gd.length + 1) (by omega)), k4 (q (gd.length + 2) hln)]
end
