/-! room: what a merge may still cost -/
/-- the bytes of the records that are to be copied -/
def xd (li : Int32) : List AR → Nat
  | [] => 0
  | r :: rs => (if r.2.1 < li then rcn r else 0) + xd li rs
theorem xd_app2 (li : Int32) : ∀ a b : List AR, xd li (a ++ b) = xd li a + xd li b
  | [], b => by show xd li b = 0 + xd li b; omega
  | r :: a, b => by
    have := xd_app2 li a b
    show _ + xd li (a ++ b) = _ + xd li a + xd li b
    omega
theorem xd_set {li : Int32} {rs : List AR} {p : Nat} {r r' : AR} (h : rs[p]? = some r) : xd li (rs.set p r') + (if r.2.1 < li then rcn r else 0) = xd li rs + (if r'.2.1 < li then rcn r' else 0) := by
  have e := congrArg (xd li) (take_at h)
  rw [xd_app2] at e
  rw [set_split h, xd_app2]
  have e2 : xd li (r :: rs.drop (p + 1)) = (if r.2.1 < li then rcn r else 0) + xd li (rs.drop (p + 1)) := rfl
  show xd li (rs.take p) + ((if r'.2.1 < li then rcn r' else 0) + xd li (rs.drop (p + 1))) + _ = _
  omega
def Gr (V : VC) : Nat := if V.2.2.1.1 = 1 ∧ V.2.2.1.2.2.2.1 = -1 then 2 * V.2.2.1.2.2.2.2.2.1.toNatClampNeg + 2 * xd V.2.2.1.2.1 V.2.1 else 0
theorem nh_disk (r : AR) (V : VC) : (nhV r V).1 = V.1 ∧ (nhV r V).2.1 = V.2.1 ∧ (nhV r V).2.2.1.1 = V.2.2.1.1 ∧ (nhV r V).2.2.1.2.1 = V.2.2.1.2.1 ∧ (nhV r V).2.2.1.2.2.1 = V.2.2.1.2.2.1 ∧ (nhV r V).2.2.1.2.2.2.1 = V.2.2.1.2.2.2.1 ∧ (nhV r V).2.2.1.2.2.2.2.2.1 = V.2.2.1.2.2.2.2.2.1 ∧ (nhV r V).2.2.2 = V.2.2.2 := by
  unfold nhV
  split <;> exact ⟨rfl, rfl, rfl, rfl, rfl, rfl, rfl, rfl⟩
/-- the hint that a copy writes first -/
def hlen (R : AR) (V : VC) : Nat := match cpW R V with
  | true => if V.2.2.1.2.2.1 = -1 then 0 else (hinC V).length
  | false => 0
theorem cpA_facts {R : AR} {V : VC} (hS : SrtF V.1.1) (hh : V.2.2.1.2.2.1 ≠ -1 → fndF V.2.2.1.2.2.1 1 V.1.1 = none ∧ V.2.2.2.2.1.2.1 ≠ V.2.2.1.2.2.1) (hn : V.1.2.2.2.2.2 ≠ -1) (hnf : fndF V.1.2.2.2.2.2 0 V.1.1 = none) (hac : V.2.2.2.2.1.2.1 ≠ V.1.2.2.2.2.2) : ((cpA R V).2 ≤ 2 * hlen R V ∧ lamF (cpA R V).1.2.2.1.2.2.1 (cpA R V).1.1.1 ≤ lamF V.2.2.1.2.2.1 V.1.1 ∧ lamF V.2.2.2.2.1.2.1 (cpA R V).1.1.1 = lamF V.2.2.2.2.1.2.1 V.1.1 ∧ V.2.2.2.2.1.2.1 ≠ (cpA R V).1.2.2.1.2.2.1 ∧ SrtF (cpA R V).1.1.1) ∧ (cpA R V).1.2.2.1.2.2.2.2.2.1 = V.2.2.1.2.2.2.2.2.1 - nI (hlen R V) ∧ (cpA R V).1.2.1 = V.2.1 ∧ (cpA R V).1.2.2.1.1 = V.2.2.1.1 ∧ (cpA R V).1.2.2.1.2.1 = V.2.2.1.2.1 ∧ (cpA R V).1.2.2.1.2.2.2.1 = V.2.2.1.2.2.2.1 ∧ (cpA R V).1.2.2.1.2.2.1 ≠ -1 ∧ (cpA R V).1.2.2.2.2.1.2.1 = V.2.2.2.2.1.2.1 := by
  unfold cpA hlen
  have e0 : ∀ x : Int32, x = x - nI 0 := fun x => by
    rw [show nI 0 = 0 from rfl, Int32.sub_zero]
  have z0 : lamF V.1.2.2.2.2.2 V.1.1 = 0 := by
    unfold lamF
    rw [hnf]
  cases hc : cpW R V with
  | true =>
    unfold tak6 whV
    by_cases co : V.2.2.1.2.2.1 = -1
    · simp only [if_pos co]
      refine ⟨⟨Nat.zero_le _, ?_, rfl, hac, hS⟩, e0 _, rfl, rfl, rfl, rfl, hn, rfl⟩
      show lamF V.1.2.2.2.2.2 V.1.1 ≤ _
      omega
    · simp only [if_neg co]
      obtain ⟨hh1, hh2⟩ := hh co
      refine ⟨⟨lam_app1 hS hh1, ?_, ?_, hac, ?_⟩, rfl, rfl, rfl, rfl, rfl, hn, rfl⟩
      · show lamF V.1.2.2.2.2.2 (appF V.2.2.1.2.2.1 1 (hinC V) V.1.1 V.1.2.1).1 ≤ _
        rw [lamF_ne hS (fun q => absurd q.2 (by decide)), z0]
        exact Nat.zero_le _
      · show lamF V.2.2.2.2.1.2.1 (appF V.2.2.1.2.2.1 1 (hinC V) V.1.1 V.1.2.1).1 = _
        exact lamF_ne hS (fun q => absurd q.2 (by decide))
      · show SrtF (appF V.2.2.1.2.2.1 1 (hinC V) V.1.1 V.1.2.1).1
        obtain ⟨_, _, _, q, _⟩ := app_has (a := V.2.2.1.2.2.1) (b := 1) (part := hinC V) (sv := V.1.2.1) hS
        exact q
  | false =>
    have hne : V.2.2.1.2.2.1 ≠ -1 := fun q => of_decide_eq_false hc (Or.inl q)
    exact ⟨⟨Nat.zero_le _, Nat.le_refl _, rfl, (hh hne).2, hS⟩, e0 _, rfl, rfl, rfl, rfl, hne, rfl⟩
theorem nx_row {V : VC} {j : Nat} (hS : SrtR V.2.1) (h : nxB V.2.1 V.2.2.1.2.1 none = some j) : ∃ r, V.2.1[j]? = some r ∧ r.2.1 < V.2.2.1.2.1 ∧ ∀ x, x ∈ V.2.1 → x.2.1 < V.2.2.1.2.1 → x = r ∨ bhd r x := by
  obtain ⟨_, h2⟩ := nbR_min (l := V.2.2.1.2.1) (o := none) (oa := none) hS (fun j e => by cases e) (fun _ => rfl) V.2.1.length 0 none (by omega) (fun _ k r hk => by omega) (fun b e => by cases e)
  obtain ⟨rb, q1, q2, q3⟩ := h2 j h
  exact ⟨rb, q1, q2.2.1, fun x hx hl => q3 x ⟨hx, hl, fun q e => by cases e⟩⟩
theorem nx_none {V : VC} (hS : SrtR V.2.1) (h : nxB V.2.1 V.2.2.1.2.1 none = none) : ∀ x, x ∈ V.2.1 → ¬ x.2.1 < V.2.2.1.2.1 := by
  obtain ⟨h1, _⟩ := nbR_min (l := V.2.2.1.2.1) (o := none) (oa := none) hS (fun j e => by cases e) (fun _ => rfl) V.2.1.length 0 none (by omega) (fun _ k r hk => by omega) (fun b e => by cases e)
  exact fun x hx hl => h1 h x ⟨hx, hl, fun q e => by cases e⟩
/-- a unit that copies, as it is -/
theorem du_copy {V : VC} {j : Nat} {r : AR} {f : AF} (hm : V.2.2.1.2.2.2.1 = -1) (hx : nxB V.2.1 V.2.2.1.2.1 none = some j) (hr : V.2.1[j]? = some r) (hf : fndF r.2.1 0 (cpA r V).1.1.1 = some f) : duV V = (nhV (r.1, (cpA r V).1.2.2.1.2.2.1, cpP r V, r.2.2.2.1, r.2.2.2.2) (sRr (telR j (cpA r V).1.2.2.1.2.2.1 (cpP r V) r.2.2.2.1 r.2.2.2.2 V.2.1) (cpB r f (cpA r V).1)), (cpA r V).2 + (appF (cpA r V).1.2.2.1.2.2.1 0 ((f.2.2.1.drop r.2.2.1.toNatClampNeg).take (rcn r)) (cpA r V).1.1.1 (cpA r V).1.1.2.1).2.2) := by
  unfold duV
  rw [if_pos hm, hx]
  simp only [Option.bind_some, hr, Option.map_some]
  unfold cpV
  rw [hf]
theorem du_fin {V : VC} (hm : V.2.2.1.2.2.2.1 = -1) (hx : nxB V.2.1 V.2.2.1.2.1 none = none) : duV V = fnV V := by
  unfold duV
  rw [if_pos hm, hx]
  rfl
theorem du_rem {V : VC} (hm : ¬ V.2.2.1.2.2.2.1 = -1) : duV V = (rnV V, 0) := by
  unfold duV
  rw [if_neg hm]
theorem nI_inj2 {a b : Nat} (h : nI a = nI b) (ha : a < 2 ^ 31) (hb : b < 2 ^ 31) : a = b := by
  have := congrArg Int32.toInt h
  rw [nI_toInt ha, nI_toInt hb] at this
  omega
section
variable {t t' : Nat} {V : VC} {S S' : MS} {ps ps' : List AV} {C C' : Int}
theorem m1_of (h : RelB t C V S ps) (hu : V.2.2.1.1 = 1) (hm : V.2.2.1.2.2.2.1 = -1) : M1 V S := by
  rcases h.2.2.2 with d | d | d
  · rw [d.1] at hu
    exact absurd hu (by decide)
  · exact d
  · exact absurd hm d.2.1
theorem lamF_dis {a b c : Int32} {fs : List AF} (hS : SrtF fs) : lamF c (disF a b fs) ≤ lamF c fs := by
  unfold lamF
  cases h1 : fndF c 0 (disF a b fs) with
  | none => exact Nat.zero_le _
  | some f =>
    obtain ⟨w1, w2, w3⟩ := fnd_mem h1
    have h2 := fnd_uniq hS ((mem_disF hS).mp w1).1
    rw [w2, w3] at h2
    rw [h2]
    exact Nat.le_refl _
theorem lam_rn (hS : SrtF V.1.1) : (∀ c, lamF c (rnV V).1.1 ≤ lamF c V.1.1) ∧ ((rnV V).2.2.1 = V.2.2.1 ∨ (rnV V).2.2.1 = (sStop V).2.2.1) ∧ (rnV V).2.2.2.2 = V.2.2.2.2 := by
  have one : ∀ (a b c : Int32) (D : VD), SrtF D.1 → lamF c (vDis a b D).1 ≤ lamF c D.1 ∧ SrtF (vDis a b D).1 := by
    intro a b c D h
    rw [(vDis_files a b D).1]
    exact ⟨lamF_dis h, srt_dis h⟩
  unfold rnV
  split
  · exact ⟨fun c => (one _ _ c _ hS).1, Or.inr rfl, rfl⟩
  · split
    · exact ⟨fun c => Nat.le_trans (one _ _ c _ (one _ _ c _ hS).2).1 (one _ _ c _ hS).1, Or.inl rfl, rfl⟩
    · exact ⟨fun c => (one _ _ c _ hS).1, Or.inr rfl, rfl⟩
theorem nx_free (h : RelB t C V S ps) : V.1.2.2.2.2.2 ≠ -1 ∧ (∀ b, fndF V.1.2.2.2.2.2 b V.1.1 = none) ∧ V.2.2.2.2.1.2.1 ≠ V.1.2.2.2.2.2 := by
  obtain ⟨⟨⟨f1, f2, f3, f4, f5, f6⟩, hW, hC⟩, _⟩ := id h
  refine ⟨fun q => ?_, fun b => ?_, fun q => ?_⟩
  · have := hC.2.1.1
    rw [q] at this
    exact absurd this (by decide)
  · cases hf : fndF V.1.2.2.2.2.2 b V.1.1 with
    | none => rfl
    | some x =>
      obtain ⟨w1, w2, _⟩ := fnd_mem hf
      have := (f2 x w1).2.1.2
      rw [w2] at this
      omega
  · rcases hC.2.2.2.1 with z | z
    · have := hC.2.1.1
      rw [← q, z] at this
      exact absurd this (by decide)
    · have := z.1.2
      rw [q] at this
      omega
theorem gr_copy {j : Nat} {r : AR} {f : AF} (h : RelB t C V S ps) (h' : RelB t' C' (duV V).1 S' ps') (hu : V.2.2.1.1 = 1) (hm : V.2.2.1.2.2.2.1 = -1) (hx : nxB V.2.1 V.2.2.1.2.1 none = some j) (hr : V.2.1[j]? = some r) (hf : fndF r.2.1 0 (cpA r V).1.1.1 = some f) (hfl : r.2.2.1.toNatClampNeg + rcn r ≤ f.2.2.1.length) : (duV V).2 + Lam (duV V).1 + Gr (duV V).1 ≤ Lam V + Gr V := by
  have hM := m1_of h hu hm
  have hrc := rel_rcb h (List.mem_of_getElem? hr)
  obtain ⟨⟨⟨f1, f2, f3, f4, f5, f6⟩, hW, hC⟩, _⟩ := id h
  obtain ⟨r0, e0, hlt, _⟩ := nx_row hW.1 hx
  rw [hr] at e0
  cases e0
  obtain ⟨a1, a2, a3, a4, ⟨l1, l2, l3⟩, a6, ms, nl, os, R, ⟨b1, b2, b3, b4⟩, ⟨b5, b6⟩, b7, b8, b9, b10, b11⟩ := hM
  obtain ⟨hnx, hnf, hac⟩ := nx_free h
  obtain ⟨⟨k1, k11, k12, k13, k14⟩, k2, k3, k4, k5, k6, k7, k8⟩ := cpA_facts (R := r) (V := V) f1 (fun q => ⟨(b7 q).2.2.2.2.2.2.2, (b7 q).2.2.2.2.2.2.1⟩) hnx (hnf 0) hac
  have hl := lam_app0 (a := (cpA r V).1.2.2.1.2.2.1) (part := (f.2.2.1.drop r.2.2.1.toNatClampNeg).take (rcn r)) (sv := (cpA r V).1.1.2.1) k14
  have hl2 := lamF_ne (a := (cpA r V).1.2.2.1.2.2.1) (b := 0) (c := V.2.2.2.2.1.2.1) (part := (f.2.2.1.drop r.2.2.1.toNatClampNeg).take (rcn r)) (sv := (cpA r V).1.1.2.1) k14 (fun q => k13 q.1)
  have hpl : ((f.2.2.1.drop r.2.2.1.toNatClampNeg).take (rcn r)).length = rcn r := by rw [List.length_take, List.length_drop]; omega
  rw [hpl] at hl
  have eD := du_copy hm hx hr hf
  have n := nh_disk (r.1, (cpA r V).1.2.2.1.2.2.1, cpP r V, r.2.2.2.1, r.2.2.2.2) (sRr (telR j (cpA r V).1.2.2.1.2.2.1 (cpP r V) r.2.2.2.1 r.2.2.2.2 V.2.1) (cpB r f (cpA r V).1))
  have e1 : (duV V).1.1.1 = (appF (cpA r V).1.2.2.1.2.2.1 0 ((f.2.2.1.drop r.2.2.1.toNatClampNeg).take (rcn r)) (cpA r V).1.1.1 (cpA r V).1.1.2.1).1 := by
    rw [eD]
    exact congrArg (fun D : VD => D.1) n.1
  have e2 : (duV V).1.2.1 = V.2.1.set j (r.1, (cpA r V).1.2.2.1.2.2.1, cpP r V, r.2.2.2.1, r.2.2.2.2) := by
    rw [eD]
    refine n.2.1.trans ?_
    show telR _ _ _ _ _ _ = _
    rw [telR_set hr]
  have e3 : (duV V).1.2.2.1.1 = 1 := by rw [eD]; exact (n.2.2.1.trans k4).trans hu
  have e4 : (duV V).1.2.2.1.2.1 = V.2.2.1.2.1 := by rw [eD]; exact n.2.2.2.1.trans k5
  have e5 : (duV V).1.2.2.1.2.2.1 = (cpA r V).1.2.2.1.2.2.1 := by rw [eD]; exact n.2.2.2.2.1
  have e6 : (duV V).1.2.2.1.2.2.2.1 = -1 := by rw [eD]; exact (n.2.2.2.2.2.1.trans k6).trans hm
  have e7 : (duV V).1.2.2.1.2.2.2.2.2.1 = V.2.2.1.2.2.2.2.2.1 - nI (hlen r V) - rcb r := by
    rw [eD, ← k2]
    exact n.2.2.2.2.2.2.1
  have hM' := m1_of h' e3 e6
  obtain ⟨a1', a2', a3', a4', l', a6', ms', nl', os', R', _, _, b7', b8', b9', b10', b11'⟩ := hM'
  have ho := (b7' (by rw [e5]; exact k7)).2.2.2.2.2.1.1
  rw [e4, e5] at ho
  have hnlt : ¬ (cpA r V).1.2.2.1.2.2.1 < V.2.2.1.2.1 := by
    rw [Int32.lt_iff_toInt_lt]
    omega
  have hx1 := xd_set (li := V.2.2.1.2.1) (r' := (r.1, (cpA r V).1.2.2.1.2.2.1, cpP r V, r.2.2.2.1, r.2.2.2.2)) hr
  rw [if_pos hlt, if_neg hnlt] at hx1
  have f4' := h'.1.1.2.2.2.1
  have g1 : Gr V = 2 * R + 2 * xd V.2.2.1.2.1 V.2.1 := by
    unfold Gr
    rw [if_pos ⟨hu, hm⟩, b8, nI_clamp (by omega)]
  have g2 : Gr (duV V).1 = 2 * R' + 2 * xd V.2.2.1.2.1 (V.2.1.set j (r.1, (cpA r V).1.2.2.1.2.2.1, cpP r V, r.2.2.2.1, r.2.2.2.2)) := by
    unfold Gr
    rw [if_pos ⟨e3, e6⟩, b8', nI_clamp (by omega), e4, e2]
  have hh : hlen r V ≤ 9000 := by
    unfold hlen
    split
    · split
      · omega
      · rename_i q
        have := hC.2.2.2.2.2.2
        rw [hin_eq (b7 q), hiC_len]
        have := (b7 q).2.2.2.2.1.1
        have := (b7 q).2.2.2.2.1.2
        omega
    · omega
  have hR : R = R' + hlen r V + rcn r := by
    rw [b8, hrc.1] at e7
    rw [b8'] at e7
    have : nI R = nI (R' + hlen r V + rcn r) := by
      rw [← nI_add, ← nI_add, e7]
      rw [Int32.add_assoc, Int32.add_comm (nI (hlen r V)), ← Int32.add_assoc, Int32.sub_add_cancel, Int32.sub_add_cancel]
    exact nI_inj2 this (by omega) (by omega)
  have ez : (duV V).2 = (cpA r V).2 + (appF (cpA r V).1.2.2.1.2.2.1 0 ((f.2.2.1.drop r.2.2.1.toNatClampNeg).take (rcn r)) (cpA r V).1.1.1 (cpA r V).1.1.2.1).2.2 := by rw [eD]
  have e8 : (duV V).1.2.2.2.2.1.2.1 = V.2.2.2.2.1.2.1 := by
    rw [eD]
    exact (congrArg (fun x : VO × VK × VT => x.2.1.2.1) n.2.2.2.2.2.2.2).trans k8
  unfold Lam
  rw [ez, e1, g1, g2, e5, e8]
  omega
theorem gr_fin (h : RelB t C V S ps) (hu : V.2.2.1.1 = 1) (hm : V.2.2.1.2.2.2.1 = -1) (hx : nxB V.2.1 V.2.2.1.2.1 none = none) : (duV V).2 + Lam (duV V).1 + Gr (duV V).1 ≤ Lam V + Gr V := by
  have hM := m1_of h hu hm
  obtain ⟨⟨⟨f1, f2, f3, f4, f5, f6⟩, hW, hC⟩, _⟩ := id h
  obtain ⟨a1, a2, a3, a4, ⟨l1, l2, l3⟩, a6, ms, nl, os, R, ⟨b1, b2, b3, b4⟩, ⟨b5, b6⟩, b7, b8, b9, b10, b11⟩ := hM
  obtain ⟨hnx, hnf, hac⟩ := nx_free h
  have no2 : ∀ fs : List AF, (∀ f, f ∈ fs → ¬ f.2.1 = 2) → fndF V.1.2.2.2.2.2 2 fs = none := by
    intro fs hno
    cases hf : fndF V.1.2.2.2.2.2 2 fs with
    | none => rfl
    | some x =>
      obtain ⟨w1, _, w3⟩ := fnd_mem hf
      exact absurd w3 (hno x w1)
  have g1 : Gr V = 2 * R + 2 * xd V.2.2.1.2.1 V.2.1 := by
    unfold Gr
    rw [if_pos ⟨hu, hm⟩, b8, nI_clamp (by omega)]
  rw [du_fin hm hx]
  have g2 : Gr (fnV V).1 = 0 := by
    unfold Gr
    refine if_neg (fun q => hnx ?_)
    have : (fnV V).1.2.2.1.2.2.2.1 = (whV V).1.1.2.2.2.2.2 := rfl
    rw [this] at q
    unfold whV at q
    split at q <;> exact q.2
  unfold need1 at b11
  have srt : SrtF (whV V).1.1.1 := by
    unfold whV
    split
    · exact f1
    · obtain ⟨_, _, _, q, _⟩ := app_has (a := V.2.2.1.2.2.1) (b := 1) (part := hinC V) (sv := V.1.2.1) f1
      exact q
  have hwl : ∀ c, lamF c (whV V).1.1.1 = lamF c V.1.1 := by
    intro c
    unfold whV
    split
    · rfl
    · exact lamF_ne f1 (fun q => absurd q.2 (by decide))
  have wac : (whV V).1.2.2.2.2.1.2.1 = V.2.2.2.2.1.2.1 := by
    unfold whV
    split <;> rfl
  have hs : Lam (fnV V).1 ≤ lamF V.2.2.2.2.1.2.1 V.1.1 := by
    unfold Lam
    have s1 : shF (fnV V).1.1.1 = shF (appF (fnW V).2.2.1.2.2.2.1 2 (mkC (fnA V)) (fnW V).1.1 (fnW V).1.2.1).1 := sh_ph _
    have s2 : (fnV V).1.2.2.2.2.1.2.1 = (whV V).1.2.2.2.2.1.2.1 := rfl
    have s3 : (fnV V).1.2.2.1.2.2.1 = -1 := rfl
    rw [lamF_sh s1, lamF_sh s1, s2, s3, wac]
    have s4 : (fnW V).1.1 = (whV V).1.1.1 := rfl
    rw [s4, lamF_ne srt (fun q => absurd q.2 (by decide)), lamF_ne srt (fun q => absurd q.2 (by decide)), hwl, hwl, lamF_m1 (fun f hf => (f2 f hf).2.1.1)]
    omega
  have e2 : (fnV V).2 = (whV V).2 + (appF (fnW V).2.2.1.2.2.2.1 2 (mkC (fnA V)) (fnW V).1.1 (fnW V).1.2.1).2.2 := rfl
  have q1 : (fnW V).1.1 = (whV V).1.1.1 := rfl
  have q2 : (fnW V).2.2.1.2.2.2.1 = (whV V).1.1.2.2.2.2.2 := rfl
  have q3 : (mkC (fnA V)).length = 8 + 4 * (inpL (whV V).1.2.2.1.2.1 (whV V).1.1.1).length := by
    rw [mkC_eq, mrC_len]
    rfl
  by_cases ho : V.2.2.1.2.2.1 = -1
  · have ew : whV V = (V, 0) := by
      unfold whV
      rw [if_pos ho]
    rw [ew] at q1 q2 q3 e2
    dsimp only at q1 q2 q3 e2
    rw [if_pos ho] at b11
    have hl := lam_app1 (a := (fnW V).2.2.1.2.2.2.1) (part := mkC (fnA V)) (sv := (fnW V).1.2.1) (fs := (fnW V).1.1) (b := 2) (by rw [q1]; exact f1) (by rw [q2, q1]; exact no2 _ a6)
    rw [g1, g2, e2]
    unfold Lam at hs ⊢
    omega
  · have ew : (whV V).2 = (appF V.2.2.1.2.2.1 1 (hinC V) V.1.1 V.1.2.1).2.2 ∧ (whV V).1.1.1 = (appF V.2.2.1.2.2.1 1 (hinC V) V.1.1 V.1.2.1).1 ∧ (whV V).1.1.2.2.2.2.2 = V.1.2.2.2.2.2 ∧ (whV V).1.2.2.1.2.1 = V.2.2.1.2.1 := by
      unfold whV
      rw [if_neg ho]
      exact ⟨rfl, rfl, rfl, rfl⟩
    have o := b7 ho
    rw [ew.2.1] at q1
    rw [ew.2.2.1] at q2
    rw [ew.2.2.2, ew.2.1, inpL_app (Or.inl (by decide))] at q3
    rw [ew.1] at e2
    rw [if_neg ho, ← hin_eq o] at b11
    have hl0 := lam_app1 (part := hinC V) (sv := V.1.2.1) (b := 1) f1 o.2.2.2.2.2.2.2
    have hl := lam_app1 (a := (fnW V).2.2.1.2.2.2.1) (part := mkC (fnA V)) (sv := (fnW V).1.2.1) (fs := (fnW V).1.1) (b := 2) (by rw [q1, ← ew.2.1]; exact srt) (by
      rw [q2, q1]
      refine no2 _ (fun f hf => ?_)
      rcases app_mem f1 hf with z | ⟨y, z1, z2⟩ | ⟨_, c, z⟩
      · exact a6 f z.1
      · rw [z2]
        exact a6 y (fnd_mem z1).1
      · rw [z]
        show ¬ (1 : Int32) = 2
        decide)
    rw [g1, g2, e2]
    unfold Lam at hs ⊢
    omega
theorem gr_unit (h : RelB t C V S ps) (h' : RelB t' C' (duV V).1 S' ps') (hg : UG V) (hu : V.2.2.1.1 = 1) : (duV V).2 + Lam (duV V).1 + Gr (duV V).1 ≤ Lam V + Gr V := by
  by_cases hm : V.2.2.1.2.2.2.1 = -1
  · cases hx : nxB V.2.1 V.2.2.1.2.1 none with
    | none => exact gr_fin h hu hm hx
    | some j =>
      obtain ⟨r, hr, _⟩ := nx_row h.1.2.1.1 hx
      have hg2 := hg.2
      rw [if_pos hm, hx] at hg2
      simp only [Option.bind_some, hr, Option.map_some] at hg2
      obtain ⟨_, _, _, f, hf, hfl, _⟩ := hg2
      exact gr_copy h h' hu hm hx hr hf hfl
  · rw [du_rem hm]
    obtain ⟨q1, q2, q3⟩ := lam_rn h.1.1.1
    have : Gr (rnV V) = 0 := by
      unfold Gr
      refine if_neg (fun q => ?_)
      rcases q2 with z | z
      · rw [z] at q
        exact hm q.2
      · rw [z] at q
        exact absurd (show (0 : Int32) = 1 from q.1) (by decide)
    have h2 : Lam (rnV V) ≤ Lam V := by
      unfold Lam
      rw [q3]
      have y1 := q1 V.2.2.2.2.1.2.1
      have y2 : lamF (rnV V).2.2.1.2.2.1 (rnV V).1.1 ≤ lamF V.2.2.1.2.2.1 V.1.1 := by
        rcases q2 with z | z
        · rw [z]
          exact q1 _
        · rw [z]
          refine Nat.le_trans (q1 _) ?_
          show lamF (-1) V.1.1 ≤ _
          rw [lamF_m1 (fun f hf => (h.1.1.2.1 f hf).2.1.1)]
          exact Nat.zero_le _
      omega
    show 0 + Lam (rnV V) + Gr (rnV V) ≤ _
    omega
end
theorem itU_two : ∀ (j : Nat) (V : VC), (itU (j + 1) V).2 = (itU j V).2 + (duV (itU j V).1).2
  | 0, V => by
    show (duV V).2 + 0 = 0 + (duV V).2
    omega
  | j + 1, V => by
    have := itU_two j (duV V).1
    show (duV V).2 + (itU (j + 1) (duV V).1).2 = (duV V).2 + (itU j (duV V).1).2 + (duV (itU j (duV V).1).1).2
    omega
theorem uN_under {t : Nat} {C : Int} {V : VC} {S : MS} {ps : List AV} (h : RelB t C V S ps) (hu : 0 < uN V) : V.2.2.1.1 = 1 := by
  rcases h.2.2.2 with d | d | d
  · unfold uN at hu
    rw [if_pos d.1] at hu
    omega
  · exact d.1
  · exact d.1
theorem gr_it {V : VC} (h : RU V) : ∀ j, j ≤ uN V → (itU j V).2 + Lam (itU j V).1 + Gr (itU j V).1 ≤ Lam V + Gr V
  | 0, _ => by
    show 0 + Lam V + Gr V ≤ _
    omega
  | j + 1, hj => by
    have ih := gr_it h j (by omega)
    obtain ⟨⟨t, C, S, ps, _, h1⟩, h2, h3⟩ := h j (by omega)
    obtain ⟨⟨t', C', S', ps', _, h1'⟩, _, _⟩ := h (j + 1) hj
    rw [itU_succ] at h1'
    have := gr_unit h1 h1' (h3 (by omega)) (uN_under h1 (by omega))
    rw [itU_two, itU_succ]
    omega
