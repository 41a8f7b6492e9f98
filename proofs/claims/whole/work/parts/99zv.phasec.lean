/-! room: a merge begins, finishes, removes, ends -/
def PhC (V : VC) (A psL : List Sh) (m : Sh) (sz : List (Nat × Nat)) (cop : List AR) : Prop :=
  (shF V.1.1 = A ++ (psL ++ [m])) ∧
  (V.2.2.1.1 = 1 ∧ V.2.2.1.2.2.2.1 = m.1 ∧ ¬ m.1 = -1 ∧ m.2.1 = 2) ∧
  (V.2.2.1.2.2.1 = -1 ∧ V.2.2.2.2.1.2.1 = -1) ∧
  ((∀ r, r ∈ V.2.1 ↔ r ∈ cop) ∧ cop.Pairwise bhd ∧ sz = cop.map se) ∧
  (Prs psL ∧ lens psL = cn0 (fmV V) sz) ∧
  (∀ x, x ∈ A → x.1 < V.2.2.1.2.1 ∧ ¬ x.2.1 = 2) ∧ (∀ x, x ∈ psL → ¬ x.1 < V.2.2.1.2.1)
/-- nothing is under way -/
def RRs (V : VC) (A psL : List Sh) (sz : List (Nat × Nat)) (cop : List AR) : Prop :=
  (shF V.1.1 = A ++ psL) ∧
  (V.2.2.1.1 = 0) ∧
  (V.2.2.1.2.2.1 = -1 ∧ V.2.2.2.2.1.2.1 = -1) ∧
  ((∀ r, r ∈ V.2.1 ↔ r ∈ cop) ∧ cop.Pairwise bhd ∧ sz = cop.map se) ∧
  (Prs psL ∧ lens psL = cn0 (fmV V) sz) ∧
  (∀ x, x ∈ A → ¬ x.2.1 = 0)
section
variable {t t' : Nat} {V : VC} {S S' : MS} {ps ps' : List AV} {C C' : Int} {fs0 A psL : List Sh} {m : Sh} {x0 : Nat → Nat} {sz : List (Nat × Nat)} {cop rem : List AR} {gd cd : List Sh} {r : AR}
theorem srt_eq : ∀ {a b : List AR}, a.Pairwise bhd → b.Pairwise bhd → (∀ r, r ∈ a ↔ r ∈ b) → a = b
  | [], [], _, _, _ => rfl
  | [], y :: b, _, _, h => absurd ((h y).mpr List.mem_cons_self) (by simp)
  | x :: a, [], _, _, h => absurd ((h x).mp List.mem_cons_self) (by simp)
  | x :: a, y :: b, ha, hb, h => by
    obtain ⟨a1, a2⟩ := List.pairwise_cons.mp ha
    obtain ⟨b1, b2⟩ := List.pairwise_cons.mp hb
    have e : x = y := by
      rcases List.mem_cons.mp ((h x).mp List.mem_cons_self) with z | z
      · exact z
      · rcases List.mem_cons.mp ((h y).mpr List.mem_cons_self) with w | w
        · exact w.symm
        · exact absurd (bhd_as (a1 y w) (b1 x z)) id
    subst e
    rw [srt_eq a2 b2 (fun r => ⟨fun q => ?_, fun q => ?_⟩)]
    · rcases List.mem_cons.mp ((h r).mp (List.mem_cons_of_mem _ q)) with z | z
      · rw [z] at q
        exact absurd rfl (bhd_ne (a1 x q))
      · exact z
    · rcases List.mem_cons.mp ((h r).mpr (List.mem_cons_of_mem _ q)) with z | z
      · rw [z] at q
        exact absurd rfl (bhd_ne (b1 x q))
      · exact z
theorem phA_begin (h : Rel t V S ps) (hc : ∀ r, r ∈ V.2.1 ↔ r ∈ cop) (hp : cop.Pairwise bhd) : PhA (sStart (nedV V) (si1109 (-1) V)) (shF V.1.1) (stk V.1.2.1) (cop.map se) [] cop [] [] := by
  refine ⟨?_, fun p => rfl, rfl, rfl, rfl, fun r => ?_, hp, fun r hr => ?_, List.Pairwise.nil, fun r hr => (by cases hr), rfl, trivial, fun x hx => ?_, fun x hx => (by cases hx), Or.inl ⟨rfl, rfl, rfl, rfl⟩, fun p s hs => (by cases hs)⟩
  · show shF V.1.1 = shF V.1.1 ++ ([] ++ [])
    rw [List.append_nil, List.append_nil]
  · constructor
    · exact fun q => Or.inr ((hc r).mp q)
    · rintro (q | q)
      · cases q
      · exact (hc r).mpr q
  · show r.2.1 < V.1.2.2.2.2.2
    rw [Int32.lt_iff_toInt_lt]
    exact (rel_rcb h ((hc r).mpr hr)).2.2.2.2
  · show x.1 < V.1.2.2.2.2.2
    obtain ⟨f, hf, e⟩ := List.mem_map.mp hx
    rw [← e, Int32.lt_iff_toInt_lt]
    exact (h.1.1.2.1 f hf).2.1.2
theorem nx_done (hA : PhA V fs0 x0 sz cop [] gd cd) (h : RelB t C V S ps) : nxB V.2.1 V.2.2.1.2.1 none = none := by
  refine nxB_none (oa := none) h.1.2.1.1 (fun j q => by cases q) (fun _ => rfl) (fun x hx => ?_)
  rcases (hA.rws x).mp hx.1 with z | z
  · exact hA.cop2 x z hx.2.1
  · cases z
theorem capOK_ext {σ : List Nat} {gs : List Sh} {μ : Nat} (h : capOK x0 σ gs) (hl : gs.length ≤ σ.length) : capOK x0 (σ ++ [μ]) gs := by
  intro p s hp
  obtain ⟨h1, h2, h3⟩ := h p s hp
  have : p < gs.length := lt_of_some hp
  refine ⟨h1, h2, fun q => h3 ?_⟩
  rw [List.getD_eq_getElem?_getD, List.getElem?_append_left (by omega)] at q
  rw [List.getD_eq_getElem?_getD]
  exact q
/-- the mark's bytes -/
def mkn (V : VC) : Nat := 8 + 4 * (inpL V.2.2.1.2.1 V.1.1).length
theorem phA_fin (hA : PhA V fs0 x0 sz cop [] gd cd) (h : RelB t C V S ps) : ∃ psL m, (PhC (duV V).1 fs0 psL m sz cop ∧ m.2.2.1 = mkn V) ∧ (∀ p, stk (duV V).1.1.2.1 p = x0 (p + (psL.length + 1))) ∧ capOK x0 (cn0 (fmV V) sz ++ [mkn V]) (psL ++ [m]) ∧ ((∀ p, p < (cn0 (fmV V) sz).length → (cn0 (fmV V) sz).getD p 0 ≤ x0 p) → mkn V ≤ x0 (cn0 (fmV V) sz).length → (duV V).2 = 0) := by
  rw [du_fin hA.mk (nx_done hA h)]
  obtain ⟨hnx, hnf, hac⟩ := nx_free h
  obtain ⟨⟨⟨f1, f2, f3, f4, f5, f6⟩, hW, hC⟩, _⟩ := id h
  have hM := m1_of h hA.un hA.mk
  obtain ⟨a1, a2, a3, a4, ⟨l1, l2, l3⟩, a6, ms, nl, os, R, _, _, b7, b8, b9, b10, b11⟩ := hM
  have hlt : ∀ b, allLt V.1.2.2.2.2.2 b V.1.1 := fun b g hg => Or.inl (Int32.lt_iff_toInt_lt.mpr (f2 g hg).2.1.2)
  have hA2 : ∀ x, x ∈ fs0 → ¬ x.2.1 = 2 := by
    intro x hx
    have hx : x ∈ shF V.1.1 := by rw [hA.sh]; exact List.mem_append.mpr (Or.inl hx)
    obtain ⟨f, hf, e⟩ := List.mem_map.mp hx
    rw [← e]
    exact a6 f hf
  have hszs : sz = cop.map se := by
    rw [hA.szs]
    exact List.append_nil _
  have hrws : ∀ r, r ∈ V.2.1 ↔ r ∈ cop := by
    intro r
    rw [hA.rws r]
    constructor
    · rintro (q | q)
      · exact q
      · cases q
    · exact Or.inl
  have q1 : (fnV V).1.1.1 = ((appF (whV V).1.1.2.2.2.2.2 2 (mkC (fnA V)) (whV V).1.1.1 (whV V).1.1.2.1).1).map ph0 := rfl
  have q2 : (fnV V).1.1.2.1 = (appF (whV V).1.1.2.2.2.2.2 2 (mkC (fnA V)) (whV V).1.1.1 (whV V).1.1.2.1).2.1 := rfl
  have q3 : (fnV V).2 = (whV V).2 + (appF (whV V).1.1.2.2.2.2.2 2 (mkC (fnA V)) (whV V).1.1.1 (whV V).1.1.2.1).2.2 := rfl
  have q4 : (mkC (fnA V)).length = 8 + 4 * (inpL (whV V).1.2.2.1.2.1 (whV V).1.1.1).length := by
    rw [mkC_eq, mrC_len]
    rfl
  have q5 : (fnV V).1.2.2.1.2.2.2.1 = (whV V).1.1.2.2.2.2.2 := rfl
  have q6 : (fnV V).1.2.2.1.1 = (whV V).1.2.2.1.1 := rfl
  have q7 : (fnV V).1.2.2.2.2.1.2.1 = (whV V).1.2.2.2.2.1.2.1 := rfl
  have q8 : (fnV V).1.2.1 = (whV V).1.2.1 := rfl
  have q9 : (fnV V).1.2.2.1.2.1 = (whV V).1.2.2.1.2.1 := rfl
  have q10 : fmV (fnV V).1 = fmV (whV V).1 := rfl
  rcases hA.cur with ⟨c1, c2, c3, c4⟩ | ⟨c0, c, k, c1, c2, c3, c4⟩
  · have ewh : whV V = (V, 0) := by
      unfold whV
      rw [if_pos c4]
    rw [ewh] at q1 q2 q3 q4 q5 q6 q7 q8 q9 q10
    dsimp only at q1 q2 q3 q4 q5 q6 q7 q8 q9 q10
    have ap : appF V.1.2.2.2.2.2 2 (mkC (fnA V)) V.1.1 V.1.2.1 = _ := app_new (hlt 2)
    rw [ap] at q1 q2 q3
    dsimp only at q1 q2 q3
    have q4 : (mkC (fnA V)).length = mkn V := q4
    subst c1 c2 c3
    have hσ : cn0 (fmV V) sz = [] := by
      rw [hszs]
      rfl
    have eL : lastC V.1.2.1 = x0 0 := by rw [stk_last]; exact hA.st 0
    have k0 : capOK x0 (cn0 (fmV V) sz ++ [mkn V]) [] := fun p s hs => by cases hs
    obtain ⟨k1, k2⟩ := capOK_new (a := V.1.2.2.2.2.2) (b := 2) (n := mkn V) k0 (by rw [hσ]; exact Nat.le_refl _)
    refine ⟨[], (V.1.2.2.2.2.2, 2, mkn V, gcap (x0 0) (mkn V)), ⟨⟨?_, ⟨q6.trans hA.un, q5, hnx, rfl⟩, ⟨rfl, q7.trans hA.act⟩, ⟨by rw [q8]; exact hrws, hA.cop1, hszs⟩, ⟨trivial, by rw [q10, hσ]; rfl⟩, ?_, fun x hx => (by cases hx)⟩, rfl⟩, fun p => ?_, k1, fun _ w => ?_⟩
    · rw [q1, sh_ph, sh_app, hA.sh]
      show fs0 ++ ([] ++ []) ++ [(V.1.2.2.2.2.2, 2, ([] ++ mkC (fnA V)).length, gcap (lastC V.1.2.1) ([] ++ mkC (fnA V)).length)] = _
      rw [List.nil_append, List.nil_append, List.append_nil, q4, eL]
      rfl
    · rw [q9]
      exact fun x hx => ⟨hA.lo x hx, hA2 x hx⟩
    · rw [q2, stk_drop, hA.st]
      rfl
    · rw [q3, q4, eL, Nat.zero_add]
      rw [hσ] at w k2
      exact k2 w
  · have hsh := hA.sh
    rw [c1, ← List.append_assoc] at hsh
    obtain ⟨xs, f0, e1, e2, e3⟩ := sh_one hsh
    have z1 : f0.1 = V.2.2.1.2.2.1 := congrArg (fun x : Sh => x.1) e3
    have z2 : f0.2.1 = 0 := congrArg (fun x : Sh => x.2.1) e3
    have hmem : f0 ∈ V.1.1 := by rw [e1]; exact List.mem_append.mpr (Or.inr List.mem_cons_self)
    have hout : V.2.2.1.2.2.1 ≠ -1 := fun q => by
      have := (f2 f0 hmem).2.1.1
      rw [z1, q] at this
      exact absurd this (by decide)
    have o := b7 hout
    have olt := o.2.2.2.2.2.1.2
    have hxs : allLt V.2.2.1.2.2.1 0 xs := srt_lt (ys := []) (by rw [← e1]; exact f1) z1 z2
    have hst := hA.st
    rw [c1] at hst
    have hcps := hA.cps
    rw [c1] at hcps
    have hgl : (lens gd).length = gd.length := List.length_map _
    have hhb : 4 ≤ V.2.2.1.2.2.2.2.2.2.length := by
      rw [o.2.2.1, List.length_append, be4_len]
      omega
    have ap1 : appF V.2.2.1.2.2.1 1 (hinC V) V.1.1 V.1.2.1 = _ := app_new (by
      rw [e1]
      intro g hg
      rcases List.mem_append.mp hg with w | w
      · rcases hxs g w with y | y
        · exact Or.inl y
        · refine Or.inr ⟨y.1, ?_⟩
          have := y.2
          rw [Int32.lt_iff_toInt_lt, Int32.toInt_zero] at this
          rw [Int32.lt_iff_toInt_lt, li1]
          omega
      · rw [List.mem_singleton.mp w]
        exact Or.inr ⟨z1, by rw [z2]; decide⟩)
    have ewh : whV V = (si809 (V.2.2.1.2.2.2.2.2.1 - nI (hinC V).length) (sDd (vApp V.2.2.1.2.2.1 1 (hinC V) V.1) (sB17 (hinC V) V)), (appF V.2.2.1.2.2.1 1 (hinC V) V.1.1 V.1.2.1).2.2) := by
      unfold whV
      rw [if_neg hout]
    rw [ewh] at q1 q2 q3 q4 q5 q6 q7 q8 q9 q10
    have q1 : (fnV V).1.1.1 = ((appF V.1.2.2.2.2.2 2 (mkC (fnA V)) (appF V.2.2.1.2.2.1 1 (hinC V) V.1.1 V.1.2.1).1 (appF V.2.2.1.2.2.1 1 (hinC V) V.1.1 V.1.2.1).2.1).1).map ph0 := q1
    have q2 : (fnV V).1.1.2.1 = (appF V.1.2.2.2.2.2 2 (mkC (fnA V)) (appF V.2.2.1.2.2.1 1 (hinC V) V.1.1 V.1.2.1).1 (appF V.2.2.1.2.2.1 1 (hinC V) V.1.1 V.1.2.1).2.1).2.1 := q2
    have q3 : (fnV V).2 = (appF V.2.2.1.2.2.1 1 (hinC V) V.1.1 V.1.2.1).2.2 + (appF V.1.2.2.2.2.2 2 (mkC (fnA V)) (appF V.2.2.1.2.2.1 1 (hinC V) V.1.1 V.1.2.1).1 (appF V.2.2.1.2.2.1 1 (hinC V) V.1.1 V.1.2.1).2.1).2.2 := q3
    have q4 : (mkC (fnA V)).length = 8 + 4 * (inpL V.2.2.1.2.1 (appF V.2.2.1.2.2.1 1 (hinC V) V.1.1 V.1.2.1).1).length := q4
    rw [inpL_app (Or.inl (by decide))] at q4
    have q4 : (mkC (fnA V)).length = mkn V := q4
    rw [ap1] at q1 q2 q3
    dsimp only at q1 q2 q3
    have ap2 : appF V.1.2.2.2.2.2 2 (mkC (fnA V)) (V.1.1 ++ [upF (hinC V) (V.2.2.1.2.2.1, 1, [], lastC V.1.2.1, 0)]) V.1.2.1.dropLast = _ := app_new (by
      intro g hg
      rcases List.mem_append.mp hg with w | w
      · exact hlt 2 g w
      · rw [List.mem_singleton.mp w]
        exact Or.inl (Int32.lt_iff_toInt_lt.mpr olt))
    rw [ap2] at q1 q2 q3
    dsimp only at q1 q2 q3
    have hhl := hin_len hhb
    have c3 : lens gd ++ [c, V.2.2.1.2.2.2.2.2.2.length + 4] = cn0 (fmV V) sz := c3
    rw [← hhl] at c3
    have hl1 : (gd ++ [(V.2.2.1.2.2.1, (0 : Int32), c, k)]).length = gd.length + 1 := by rw [List.length_append]; rfl
    have hσl : (cn0 (fmV V) sz).length = gd.length + 2 := by
      rw [← c3, List.length_append, hgl]
      rfl
    have g1 : (cn0 (fmV V) sz).getD (gd.length + 1) 0 = (hinC V).length := by
      rw [← c3]
      exact getD_mid (lens gd) _ gd.length hgl.symm 1
    obtain ⟨k1, k2⟩ := capOK_new (a := V.2.2.1.2.2.1) (b := 1) (n := (hinC V).length) hcps (by rw [hl1, g1]; exact Nat.le_refl _)
    have hl2 : (gd ++ [(V.2.2.1.2.2.1, (0 : Int32), c, k)] ++ [(V.2.2.1.2.2.1, (1 : Int32), (hinC V).length, gcap (x0 (gd ++ [(V.2.2.1.2.2.1, (0 : Int32), c, k)]).length) (hinC V).length)]).length = gd.length + 2 := by rw [List.length_append, hl1]; rfl
    have g2 : (cn0 (fmV V) sz ++ [mkn V]).getD (gd.length + 2) 0 = mkn V := by
      have := getD_mid (cn0 (fmV V) sz) [mkn V] (gd.length + 2) hσl.symm 0
      exact this
    obtain ⟨k3, k4⟩ := capOK_new (a := V.1.2.2.2.2.2) (b := 2) (n := mkn V) (capOK_ext (μ := mkn V) k1 (by rw [hl2, hσl]; exact Nat.le_refl _)) (by rw [hl2, g2]; exact Nat.le_refl _)
    rw [hl2, g2] at k4
    rw [hl2] at k3
    rw [hl1, g1] at k2
    rw [hl1] at k3 hl2
    have s0 : lastC V.1.2.1 = x0 (gd.length + 1) := by
      rw [stk_last, hst, hl1, Nat.zero_add]
    have s1 : lastC V.1.2.1.dropLast = x0 (gd.length + 2) := by
      rw [stk_last, stk_drop, hst, hl1]
      congr 1
      omega
    have hol : ¬ V.2.2.1.2.2.1 < V.2.2.1.2.1 := by
      rw [Int32.lt_iff_toInt_lt]
      have := o.2.2.2.2.2.1.1
      omega
    refine ⟨gd ++ [(V.2.2.1.2.2.1, 0, c, k)] ++ [(V.2.2.1.2.2.1, 1, (hinC V).length, gcap (x0 (gd.length + 1)) (hinC V).length)], (V.1.2.2.2.2.2, 2, mkn V, gcap (x0 (gd.length + 2)) (mkn V)), ⟨⟨?_, ⟨q6.trans hA.un, q5, hnx, rfl⟩, ⟨rfl, q7.trans hA.act⟩, ⟨by rw [q8]; exact hrws, hA.cop1, hszs⟩, ⟨?_, ?_⟩, ?_, ?_⟩, rfl⟩, fun p => ?_, k3, fun w1 w2 => ?_⟩
    · rw [q1, sh_ph, sh_app, sh_app, hsh]
      show fs0 ++ gd ++ [(V.2.2.1.2.2.1, 0, c, k)] ++ [(V.2.2.1.2.2.1, 1, ([] ++ hinC V).length, gcap (lastC V.1.2.1) ([] ++ hinC V).length)] ++ [(V.1.2.2.2.2.2, 2, ([] ++ mkC (fnA V)).length, gcap (lastC V.1.2.1.dropLast) ([] ++ mkC (fnA V)).length)] = _
      rw [s0, s1, List.nil_append, List.nil_append, q4]
      simp only [List.append_assoc]
    · rw [List.append_assoc]
      exact prs_app hA.gdp ⟨⟨rfl, rfl, rfl⟩, trivial⟩
    · rw [q10]
      show _ = cn0 (fmV V) sz
      rw [← c3, lens_app, lens_app, List.append_assoc]
      rfl
    · rw [q9]
      exact fun x hx => ⟨hA.lo x hx, hA2 x hx⟩
    · rw [q9]
      intro x hx
      simp only [List.append_assoc, List.mem_append, List.mem_singleton] at hx
      rcases hx with w | w | w
      · exact hA.hi x (List.mem_append.mpr (Or.inl w))
      · rw [w]
        exact hol
      · rw [w]
        exact hol
    · rw [q2, stk_drop, stk_drop, hst, hl1, hl2]
      congr 1
      omega
    · rw [q3, s0, s1, q4, k2 (by have := w1 (gd.length + 1) (by omega); rw [g1] at this; exact this), k4 (by rw [hσl] at w2; exact w2)]
/-- a file goes -/
theorem vDis_at {a b : Int32} {D : VD} {xs ys : List AF} {f : AF} (hS : SrtF D.1) (e : D.1 = xs ++ f :: ys) (h1 : f.1 = a) (h2 : f.2.1 = b) : vDis a b D = (xs ++ ys, D.2.1 ++ [f.2.2.2.1], D.2.2) := by
  have hm : f ∈ D.1 := by rw [e]; exact List.mem_append.mpr (Or.inr List.mem_cons_self)
  have hf := fnd_uniq hS hm
  rw [h1, h2] at hf
  have hp : plF a b D.1 = xs.length := by
    have := plF_end (srt_lt (by rw [← e]; exact hS) h1 h2) (f :: ys)
    rw [← e] at this
    rw [this]
    show xs.length + (if a < f.1 ∨ (f.1 = a ∧ ¬ f.2.1 < b) then 0 else _) = _
    rw [if_pos (Or.inr ⟨h1, by rw [h2, Int32.lt_iff_toInt_lt]; omega⟩)]
    rfl
  unfold vDis
  rw [hf]
  show (D.1.eraseIdx (plF a b D.1), D.2.1 ++ [f.2.2.2.1], D.2.2) = _
  rw [hp, e]
  have : (xs ++ f :: ys).eraseIdx xs.length = xs ++ ys := by
    rw [List.eraseIdx_append_of_length_le (Nat.le_refl _), Nat.sub_self]
    rfl
  rw [this]
theorem find_at {xs ys : List AF} {f : AF} (h : ∀ g, g ∈ xs → ¬ g.2.1 = 0) (hf : f.2.1 = 0) : (xs ++ f :: ys).find? (fun f => decide (f.2.1 = 0)) = some f := by
  rw [List.find?_append]
  have : xs.find? (fun f => decide (f.2.1 = 0)) = none := List.find?_eq_none.mpr (fun g hg => by simpa using h g hg)
  rw [this, List.find?_cons_of_pos (by simpa using hf)]
  rfl
theorem phC_end (hc : PhC V A psL m sz cop) (h : RelB t C V S ps) (hA : ∀ x, x ∈ A → ¬ x.2.1 = 0) : RRs (duV V).1 A psL sz cop ∧ (duV V).1.1.2.1 = V.1.2.1 ++ [m.2.2.2] ∧ (duV V).2 = 0 := by
  obtain ⟨c1, ⟨c2, c3, c4, c5⟩, ⟨c6, c7⟩, ⟨c8, c9, c10⟩, ⟨c11, c12⟩, c13, c14⟩ := hc
  have f1 := h.1.1.1
  rw [← List.append_assoc] at c1
  obtain ⟨xs, fm, e1, e2, e3⟩ := sh_one c1
  have z1 : fm.1 = m.1 := congrArg (fun x : Sh => x.1) e3
  have z2 : fm.2.1 = 2 := (congrArg (fun x : Sh => x.2.1) e3).trans c5
  have z4 : fm.2.2.2.1 = m.2.2.2 := congrArg (fun x : Sh => x.2.2.2) e3
  rw [du_rem (by rw [c3]; exact c4)]
  have hend : rnV V = endV V := by
    unfold rnV
    cases hf : V.1.1.find? (fun f => decide (f.2.1 = 0)) with
    | none => rfl
    | some f =>
      have h1 := List.mem_of_find?_eq_some hf
      have h2 := List.find?_some hf
      have h2 : f.2.1 = 0 := of_decide_eq_true h2
      show (if f.1 < V.2.2.1.2.1 then _ else _) = _
      refine if_neg (fun q => ?_)
      rw [e1] at h1
      rcases List.mem_append.mp h1 with w | w
      · have : sh1 f ∈ shF xs := List.mem_map.mpr ⟨f, w, rfl⟩
        rw [e2] at this
        rcases List.mem_append.mp this with y | y
        · exact hA _ y h2
        · exact c14 _ y q
      · rw [List.mem_singleton.mp w, z2] at h2
        exact absurd h2 (by decide)
  rw [hend]
  have hd : vDis V.2.2.1.2.2.2.1 2 V.1 = (xs ++ [], V.1.2.1 ++ [fm.2.2.2.1], V.1.2.2) := vDis_at f1 e1 (by rw [z1, c3]) z2
  have e5 : endV V = sStop (sDd (xs ++ [], V.1.2.1 ++ [fm.2.2.2.1], V.1.2.2) V) := by
    unfold endV
    rw [hd]
  rw [e5, List.append_nil, z4]
  exact ⟨⟨e2, rfl, ⟨rfl, c7⟩, ⟨c8, c9, c10⟩, ⟨c11, c12⟩, hA⟩, rfl, rfl⟩
theorem phC_rem {a1 a2 : List Sh} {d : Sh} (hc : PhC V A psL m sz cop) (h : RelB t C V S ps) (hA : A = a1 ++ d :: a2) (h1 : ∀ x, x ∈ a1 → ¬ x.2.1 = 0) (hd : d.2.1 = 0) : (duV V).2 = 0 ∧ ((∃ e a3, a2 = e :: a3 ∧ PhC (duV V).1 (a1 ++ a3) psL m sz cop ∧ (duV V).1.1.2.1 = V.1.2.1 ++ [d.2.2.2] ++ [e.2.2.2]) ∨ ((∀ e a3, a2 = e :: a3 → ¬ (e.1 = d.1 ∧ e.2.1 = 1)) ∧ PhC (duV V).1 (a1 ++ a2) psL m sz cop)) := by
  obtain ⟨c1, ⟨c2, c3, c4, c5⟩, ⟨c6, c7⟩, ⟨c8, c9, c10⟩, ⟨c11, c12⟩, c13, c14⟩ := hc
  have f1 := h.1.1.1
  rw [hA, List.append_assoc] at c1
  obtain ⟨xs, ys, e1, e2, e3⟩ := sh_split c1
  cases ys with
  | nil => cases e3
  | cons fd ys =>
    have e3 : sh1 fd :: shF ys = d :: (a2 ++ (psL ++ [m])) := e3
    injection e3 with e3 e4
    have z1 : fd.1 = d.1 := congrArg (fun x : Sh => x.1) e3
    have z2 : fd.2.1 = 0 := (congrArg (fun x : Sh => x.2.1) e3).trans hd
    have z4 : fd.2.2.2.1 = d.2.2.2 := congrArg (fun x : Sh => x.2.2.2) e3
    have hnx : ∀ g, g ∈ xs → ¬ g.2.1 = 0 := by
      intro g hg
      have : sh1 g ∈ shF xs := List.mem_map.mpr ⟨g, hg, rfl⟩
      rw [e2] at this
      exact h1 _ this
    have hfind := find_at (ys := ys) hnx z2
    have hlt : fd.1 < V.2.2.1.2.1 := by
      rw [z1]
      exact (c13 d (by rw [hA]; exact List.mem_append.mpr (Or.inr List.mem_cons_self))).1
    rw [du_rem (by rw [c3]; exact c4)]
    have ern : rnV V = sDd (vDis fd.1 1 (vDis fd.1 0 V.1)) V := by
      unfold rnV
      rw [e1, hfind]
      exact if_pos hlt
    have hd0 : vDis fd.1 0 V.1 = (xs ++ ys, V.1.2.1 ++ [fd.2.2.2.1], V.1.2.2) := vDis_at f1 e1 rfl z2
    rw [hd0] at ern
    have hS2 : SrtF (xs ++ ys) := List.Pairwise.sublist (by rw [e1]; exact List.Sublist.append (List.Sublist.refl _) (List.sublist_cons_self _ _)) f1
    refine ⟨rfl, ?_⟩
    by_cases hh : ∃ e a3, a2 = e :: a3 ∧ e.1 = d.1 ∧ e.2.1 = 1
    · obtain ⟨e, a3, g1, g2, g3⟩ := hh
      rw [g1] at e4
      cases ys with
      | nil => cases e4
      | cons fh ys =>
        have e4 : sh1 fh :: shF ys = e :: (a3 ++ (psL ++ [m])) := e4
        injection e4 with e4 e5
        have y1 : fh.1 = fd.1 := (congrArg (fun x : Sh => x.1) e4).trans (g2.trans z1.symm)
        have y2 : fh.2.1 = 1 := (congrArg (fun x : Sh => x.2.1) e4).trans g3
        have y4 : fh.2.2.2.1 = e.2.2.2 := congrArg (fun x : Sh => x.2.2.2) e4
        have hd1 : vDis fd.1 1 (xs ++ fh :: ys, V.1.2.1 ++ [fd.2.2.2.1], V.1.2.2) = (xs ++ ys, V.1.2.1 ++ [fd.2.2.2.1] ++ [fh.2.2.2.1], V.1.2.2) := vDis_at hS2 rfl y1 y2
        rw [hd1] at ern
        rw [ern]
        refine Or.inl ⟨e, a3, g1, ⟨?_, ⟨c2, c3, c4, c5⟩, ⟨c6, c7⟩, ⟨c8, c9, c10⟩, ⟨c11, c12⟩, ?_, c14⟩, ?_⟩
        · show shF (xs ++ ys) = _
          rw [sh_app, e2, e5, List.append_assoc]
        · intro x hx
          refine c13 x ?_
          rw [hA, g1]
          rcases List.mem_append.mp hx with w | w
          · exact List.mem_append.mpr (Or.inl w)
          · exact List.mem_append.mpr (Or.inr (List.mem_cons_of_mem _ (List.mem_cons_of_mem _ w)))
        · show V.1.2.1 ++ [fd.2.2.2.1] ++ [fh.2.2.2.1] = _
          rw [z4, y4]
    · refine Or.inr ⟨fun e a3 q1 q2 => hh ⟨e, a3, q1, q2⟩, ?_⟩
      have hno : fndF fd.1 1 (xs ++ ys) = none := by
        cases hf : fndF fd.1 1 (xs ++ ys) with
        | none => rfl
        | some x =>
          obtain ⟨w1, w2, w3⟩ := fnd_mem hf
          exfalso
          rw [e1] at f1
          obtain ⟨p1, p2, p3⟩ := List.pairwise_append.mp f1
          obtain ⟨p4, p5⟩ := List.pairwise_cons.mp p2
          rcases List.mem_append.mp w1 with w | w
          · rcases p3 x w fd List.mem_cons_self with y | y
            · rw [w2, Int32.lt_iff_toInt_lt] at y
              omega
            · rw [w3, z2] at y
              exact absurd y.2 (by decide)
          · cases ys with
            | nil => cases w
            | cons y0 ys =>
              have e4' : sh1 y0 :: shF ys = a2 ++ (psL ++ [m]) := e4
              have hy0 : y0.1 = fd.1 ∧ y0.2.1 = 1 := by
                rcases List.mem_cons.mp w with w | w
                · rw [← w]
                  exact ⟨w2, w3⟩
                · have q1 := (List.pairwise_cons.mp p5).1 x w
                  have q2 := p4 y0 List.mem_cons_self
                  rw [w2, w3] at q1
                  rw [z2] at q2
                  simp only [Int32.lt_iff_toInt_lt, li1, Int32.toInt_zero] at q1 q2
                  have k0 : y0.2.1 = 0 ∨ y0.2.1 = 1 ∨ y0.2.1 = 2 := (h.1.1.2.1 y0 (by rw [e1]; exact List.mem_append.mpr (Or.inr (List.mem_cons_of_mem _ List.mem_cons_self)))).1
                  rcases q2 with q2 | ⟨q3, q2⟩
                  · rcases q1 with q1 | ⟨q1, q4⟩
                    · omega
                    · rw [q1] at q2
                      omega
                  · rcases q1 with q1 | ⟨q1, q4⟩
                    · rw [q3] at q1
                      omega
                    · omega
              cases a2 with
              | nil =>
                have e4' : sh1 y0 :: shF ys = psL ++ [m] := e4'
                have hm : sh1 y0 ∈ psL ++ [m] := by rw [← e4']; exact List.mem_cons_self
                rcases List.mem_append.mp hm with q | q
                · exact c14 _ q (by show y0.1 < _; rw [hy0.1]; exact hlt)
                · have := congrArg (fun x : Sh => x.2.1) (List.mem_singleton.mp q)
                  have this : y0.2.1 = m.2.1 := this
                  rw [hy0.2, c5] at this
                  exact absurd this (by decide)
              | cons e a3 =>
                injection e4' with e5 e6
                exact hh ⟨e, a3, rfl, by rw [← e5]; exact hy0.1.trans z1, by rw [← e5]; exact hy0.2⟩
      have hd1 : vDis fd.1 1 (xs ++ ys, V.1.2.1 ++ [fd.2.2.2.1], V.1.2.2) = (xs ++ ys, V.1.2.1 ++ [fd.2.2.2.1], V.1.2.2) := by
        unfold vDis
        rw [hno]
      rw [hd1] at ern
      rw [ern]
      refine ⟨?_, ⟨c2, c3, c4, c5⟩, ⟨c6, c7⟩, ⟨c8, c9, c10⟩, ⟨c11, c12⟩, ?_, c14⟩
      · show shF (xs ++ ys) = _
        rw [sh_app, e2, e4, List.append_assoc]
      · intro x hx
        refine c13 x ?_
        rw [hA]
        rcases List.mem_append.mp hx with w | w
        · exact List.mem_append.mpr (Or.inl w)
        · exact List.mem_append.mpr (Or.inr (List.mem_cons_of_mem _ w))
end
