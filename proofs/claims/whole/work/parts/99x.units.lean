/-! class and reference: a merge's units -/
theorem col_mem : ∀ (ps : List AV) (w : AV), w ∈ col ps → ∃ p, p ∈ ps ∧ w.1 = p.1 ∧ w.2.1 = p.2.1 := by
  have key : ∀ (ps l : List AV) (w : AV), w ∈ ps.foldl (fun l p => noteA p.1 p.2.1 p.2.2 l) l → (∃ p, p ∈ ps ∧ w.1 = p.1 ∧ w.2.1 = p.2.1) ∨ ∃ v, v ∈ l ∧ w.1 = v.1 ∧ w.2.1 = v.2.1 := by
    intro ps
    induction ps with
    | nil => exact fun l w h => Or.inr ⟨w, h, rfl, rfl⟩
    | cons p ps ih =>
      intro l w h
      rcases ih _ w h with ⟨q, q1, q2⟩ | ⟨v, v1, v2, v3⟩
      · exact Or.inl ⟨q, List.mem_cons_of_mem _ q1, q2⟩
      · have : v ∈ l ∨ (v.1 = p.1 ∧ v.2.1 = p.2.1) := by
          have v1 : v ∈ noteA p.1 p.2.1 p.2.2 l := v1
          unfold noteA at v1
          split at v1
          · rcases List.mem_append.mp v1 with z | z
            · exact Or.inl z
            · rw [List.mem_singleton] at z
              rw [z]
              exact Or.inr ⟨rfl, rfl⟩
          · split at v1
            · rcases List.mem_append.mp v1 with z | z
              · exact Or.inl (List.dropLast_subset _ z)
              · rw [List.mem_singleton] at z
                rw [z]
                exact Or.inr ⟨rfl, rfl⟩
            · rcases List.mem_append.mp v1 with z | z
              · exact Or.inl z
              · rw [List.mem_singleton] at z
                rw [z]
                exact Or.inr ⟨rfl, rfl⟩
        rcases this with z | z
        · exact Or.inr ⟨v, z, v2, v3⟩
        · exact Or.inl ⟨p, List.mem_cons_self, v2.trans z.1, v3.trans z.2⟩
  intro ps w h
  rcases key ps [] w h with z | ⟨v, v1, _⟩
  · exact z
  · cases v1
/-- the disk, while a merge copies -/
def DK (t : Nat) (nx cap : Int32) (fs : List AF) (ar ps : List AV) : Prop := SrtF fs ∧ (∀ f, f ∈ fs → (f.2.1 = 0 ∨ f.2.1 = 1) ∧ (1 ≤ f.1.toInt ∧ f.1.toInt < nx.toInt) ∧ 1 ≤ f.2.2.1.length) ∧ scnt fs ≤ t ∧ PRel fs ar ps ∧ ((totF fs : Nat) : Int) ≤ cap.toInt
theorem dk_app {t : Nat} {nx nx' cap a b : Int32} {fs : List AF} {ar ps : List AV} {part : List Int32} {sv : List Nat} (h : DK t nx cap fs ar ps) (hb : b = 0 ∨ b = 1) (ha : 1 ≤ a.toInt ∧ a.toInt < nx'.toInt) (hn : nx.toInt ≤ nx'.toInt) (hp : 12 ≤ part.length) (hc : ((totF fs + part.length : Nat) : Int) ≤ cap.toInt) (hc2 : cap.toInt ≤ 16384) (hbase : ∀ f, fndF a b fs = some f → 12 ≤ f.2.2.1.length) : DK t nx' cap (appF a b part fs sv).1 (noteA a b (nI part.length) ar) (ps ++ [(a, b, nI part.length)]) ∧ totF (appF a b part fs sv).1 = totF fs + part.length := by
  obtain ⟨h1, h2, h3, h4, h5⟩ := h
  obtain ⟨x, x1, x2, x3, x4, x5⟩ := app_has (a := a) (b := b) (part := part) (sv := sv) h1
  refine ⟨⟨x3, fun f hf => ?_, Nat.le_trans (scnt_app hp) h3, prel_app h1 h4 hp (by omega) hbase, by rw [x5]; exact hc⟩, x5⟩
  rcases app_mem h1 hf with ⟨q1, _⟩ | ⟨y, q1, q2⟩ | ⟨q1, c, q2⟩
  · obtain ⟨g1, g2, g3⟩ := h2 f q1
    exact ⟨g1, ⟨g2.1, by omega⟩, g3⟩
  · obtain ⟨_, y2, y3⟩ := fnd_mem q1
    rw [q2]
    refine ⟨by show y.2.1 = 0 ∨ y.2.1 = 1; rw [y3]; exact hb, by show 1 ≤ y.1.toInt ∧ y.1.toInt < _; rw [y2]; exact ha, ?_⟩
    show 1 ≤ (y.2.2.1 ++ part).length
    rw [List.length_append]
    omega
  · rw [q2]
    refine ⟨hb, ha, ?_⟩
    show 1 ≤ ([] ++ part).length
    rw [List.nil_append]
    omega
theorem hiC_len (os : List AR) : (hiC os).length = 8 + (os.flatMap entB).length := by
  unfold hiC hiB
  rw [List.length_append, List.length_append, be4_len, be4_len]
  omega
section
variable {m : Nat} {g : Gh} {S : MS} {α : Type} {t : Nat} {V : VC} {ps : List AV}
theorem relB_dk {B : Int} (h : RelB t B V S ps) (hno : ∀ f, f ∈ V.1.1 → ¬ f.2.1 = 2) : DK t V.1.2.2.2.2.2 V.1.2.2.2.1 V.1.1 V.1.2.2.1 ps := by
  obtain ⟨⟨⟨f1, f2, f3, f4, f5, f6⟩, hW, hC⟩, _, ⟨hP, _⟩, _⟩ := h
  refine ⟨f1, fun f hf => ?_, hC.2.2.2.2.2.1, hP, f5⟩
  obtain ⟨g1, g2, g3⟩ := f2 f hf
  refine ⟨?_, g2, g3⟩
  rcases g1 with q | q | q
  · exact Or.inl q
  · exact Or.inr q
  · exact absurd q (hno f hf)
theorem set_mem {rs : List AR} {p : Nat} {r0 y r : AR} (hS : SrtR rs) (hp : rs[p]? = some r0) (h : r ∈ rs.set p y) : r = y ∨ (r ∈ rs ∧ r ≠ r0) := by
  obtain ⟨j, hj⟩ := List.mem_iff_getElem?.mp h
  rw [List.getElem?_set] at hj
  by_cases c : p = j
  · rw [if_pos c, if_pos (lt_of_some hp)] at hj
    exact Or.inl (Option.some.inj hj).symm
  · rw [if_neg c] at hj
    refine Or.inr ⟨List.mem_of_getElem? hj, fun e => c ?_⟩
    rw [e] at hj
    exact (plR_self hS hp).symm.trans (plR_self hS hj)
/-- a record was copied: what is kept. fs1, ar1, ps1: the disk just before the record comes; o0: the output's entries then -/
theorem rel_copy {V' : VC} {S' : MS} {C : Int} {i n R1 Hc : Nat} {r0 : AR} {out nx' : Int32} {bs : List Int32} {sv : List Nat} {fs1 : List AF} {ar1 ps1 : List AV} {ms o0 T : List AR} {lv : Option Nat} (h : RelB t C V S ps) (ht : t ≤ 512) (hM1 : M1 V S) (hop : V.2.2.2.2.1.1 = 1)
    (hL : RepL S ms) (hLV : ∃ nl, nl ≤ ms.length ∧ LV V.2.2.1.2.1 V.2.1 ms nl ∧ remL V.2.1 ms nl = r0 :: T) (hT : T = (ms.drop (i + 1)).filter (stl V.2.1)) (hi : i < ms.length)
    (hr0 : V.2.1[plR r0.1 V.2.1]? = some r0) (hn : n = rcn r0) (hbs : bs.length = n)
    (hdk : DK t V.1.2.2.2.2.2 V.1.2.2.2.1 fs1 ar1 ps1) (hfit : ∀ r, r ∈ V.2.1 → ∃ x P W, rowFit fs1 r x P W) (hinp : inpL V.2.2.1.2.1 fs1 = inpL V.2.2.1.2.1 V.1.1) (hdby : dby V.2.2.1.2.1 fs1 = dby V.2.2.1.2.1 V.1.1) (h15 : totF V.1.1 ≤ totF fs1) (hac : ∀ f, fndF V.2.2.2.2.1.2.1 0 fs1 = some f → 12 ≤ f.2.2.1.length)
    (hcap : ((totF fs1 + R1 : Nat) : Int) ≤ V.1.2.2.2.1.toInt) (hneed : 8 + 4 * (inpL V.2.2.1.2.1 V.1.1).length + Hc + pk V.1.2.2.2.2.1.toNatClampNeg (r0 :: T) lv ≤ R1)
    (hcase : (out = V.2.2.1.2.2.1 ∧ nx' = V.1.2.2.2.2.2 ∧ V.2.2.1.2.2.1 ≠ -1 ∧ outOk V S o0 ∧ fs1 = V.1.1 ∧ Hc = (hiC o0).length ∧ lv = some (szF out 0 fs1) ∧ szF out 0 fs1 + n ≤ V.1.2.2.2.2.1.toNatClampNeg) ∨ (out = V.1.2.2.2.2.2 ∧ nx' = V.1.2.2.2.2.2 + 1 ∧ o0 = [] ∧ Hc = 0 ∧ lv = none))
    (hnx : nx'.toInt ≤ C) (hCb : C ≤ 1000000)
    (e1 : V'.1.1 = (appF out 0 bs fs1 sv).1) (e2 : V'.1.2.2 = (noteA out 0 (nI n) ar1, V.1.2.2.2.1, V.1.2.2.2.2.1, nx')) (e3 : V'.2.1 = telR (plR r0.1 V.2.1) out (nI (szF out 0 fs1)) r0.2.2.2.1 r0.2.2.2.2 V.2.1) (e4 : V'.2.2.1 = (1, V.2.2.1.2.1, out, -1, nI (o0.length + 1), nI (R1 - n), be4 0 ++ (o0 ++ [(r0.1, out, nI (szF out 0 fs1), r0.2.2.2.1, r0.2.2.2.2)]).flatMap entB)) (e5 : V'.2.2.2.1 = V.2.2.2.1) (e6 : V'.2.2.2.2.1 = V.2.2.2.2.1)
    (w1 : RepF S' V'.1.1) (w2 : RepP S' (ps1 ++ [(out, 0, nI n)])) (w3 : RepR S' V'.2.1) (w4 : RepO S' (o0 ++ [(r0.1, out, nI (szF out 0 fs1), r0.2.2.2.1, r0.2.2.2.2)])) (w5 : S'.1 43 = nI (i + 1)) (w6 : S'.1 35 = out) (w7 : drOk S') (w8 : S'.1 24 = nx') (w9 : S'.1 36 - S'.1 37 = nI (R1 - n)) (hf : mfr [4, 8, 12, 14, 24, 35, 37, 43, 53] [1, 2, 3, 4, 5, 6, 7, 8, 13, 14, 22, 23, 24, 25, 26] S S') : RelB t C V' S' (ps1 ++ [(out, 0, nI n)]) := by
  have hrc0 := rel_rcb h (List.mem_of_getElem? hr0)
  obtain ⟨⟨⟨f1, f2, f3, f4, f5, f6⟩, hW, hC⟩, ⟨hRS, hArr, r1, r2, r3, r4, r5⟩, ⟨hP, hP0⟩, hMm⟩ := h
  obtain ⟨c1, c2, c3, c4, c5, c6, c7⟩ := hC
  obtain ⟨a1, a2, a3, a4, ⟨l1, l2, l3⟩, a6, _, _, _, _, _, ⟨b5, b6⟩, _⟩ := hM1
  obtain ⟨nl, hnl, hLV, hrem⟩ := hLV
  have hnx1 : V.1.2.2.2.2.2.toInt ≤ nx'.toInt ∧ 1 ≤ out.toInt ∧ out.toInt < nx'.toInt ∧ V.2.2.1.2.1.toInt ≤ out.toInt ∧ V.2.2.2.2.1.2.1 ≠ out ∧ nx'.toInt ≤ V.1.2.2.2.2.2.toInt + 1 := by
    rcases hcase with ⟨q1, q2, q3, q4, _⟩ | ⟨q1, q2, _⟩
    · obtain ⟨_, _, _, _, _, o6, o7, _⟩ := q4
      rw [q1, q2]
      exact ⟨Int.le_refl _, by omega, o6.2, o6.1, o7, by omega⟩
    · have hb : V.1.2.2.2.2.2.toInt ≤ 1000000000 := by omega
      rw [q1, q2, i_p1 (by omega)]
      refine ⟨by omega, by omega, by omega, l1.2, fun e => ?_, by omega⟩
      rcases c4 with z | z
      · rw [z] at e
        rw [← e] at c2
        exact absurd c2.1 (by decide)
      · rw [e] at z
        omega
  obtain ⟨n1, n2, n3, n4, n5, n6⟩ := hnx1
  obtain ⟨hc1, hc2, hc3, hc4, hc5⟩ := hrc0
  have hnn : 14 + r0.1.length ≤ n := by
    rw [hn]
    unfold rcn
    omega
  have hk1 := (hW.2.1 r0 (List.mem_of_getElem? hr0)).1
  have hn94 : n ≤ 94 := by omega
  have hR1n : n ≤ R1 := by
    rcases hcase with ⟨_, _, _, _, _, _, q7, q8⟩ | ⟨_, _, _, _, q5⟩
    · rw [q7, pk_cons, if_pos (by rw [← hn]; exact q8)] at hneed
      omega
    · rw [q5] at hneed
      have : pk V.1.2.2.2.2.1.toNatClampNeg (r0 :: T) none = 8 + (rcn r0 + 14 + r0.1.length) + pk V.1.2.2.2.2.1.toNatClampNeg T (some (rcn r0)) := rfl
      omega
  have hout : ¬ out < V.2.2.1.2.1 := nlt_of n4
  have efm : V.1.2.2.2.2.1.toNatClampNeg = V.1.2.2.2.2.1.toInt.toNat := rfl
  have hbase : ∀ f, fndF out 0 fs1 = some f → 12 ≤ f.2.2.1.length := by
    intro f hf
    rcases hcase with ⟨q1, q2, q3, q4, q5, _⟩ | ⟨q1, _⟩
    · obtain ⟨_, o2, _, _, o5, _⟩ := q4
      rw [q1, q5] at hf
      have : szF V.2.2.1.2.2.1 0 V.1.1 = f.2.2.1.length := by
        unfold szF
        rw [hf]
      have : 14 ≤ (o0.flatMap entB).length := by
        cases o0 with
        | nil => exact absurd rfl o2
        | cons e o0 =>
          rw [List.flatMap_cons, List.length_append, entB_len]
          omega
      omega
    · obtain ⟨z1, z2, _⟩ := fnd_mem hf
      have := (hdk.2.1 f z1).2.1.2
      rw [z2, q1] at this
      omega
  obtain ⟨dk2, tot2⟩ := dk_app (a := out) (b := 0) (nx' := nx') (part := bs) (sv := sv) hdk (Or.inl rfl) ⟨n2, n3⟩ n1 (by omega) (by rw [hbs]; omega) f4.2.1 hbase
  rw [hbs] at dk2 tot2
  have hs1 := hdk.1
  have esz : szF out 0 (appF out 0 bs fs1 sv).1 = szF out 0 fs1 + n := by
    obtain ⟨y, y1, y2, _⟩ := fnd_app_eq (a := out) (b := 0) (part := bs) (sv := sv) hs1
    have : szF out 0 (appF out 0 bs fs1 sv).1 = y.2.2.1.length := by
      unfold szF
      rw [y1]
    rw [this, y2, hbs]
  have szle : szF out 0 fs1 + n ≤ V.1.2.2.2.2.1.toNatClampNeg := by
    rcases hcase with ⟨_, _, _, _, _, _, _, q8⟩ | ⟨q1, _⟩
    · exact q8
    · have : szF out 0 fs1 = 0 := by
        unfold szF
        cases hz : fndF out 0 fs1 with
        | none => rfl
        | some f =>
          obtain ⟨z1, z2, _⟩ := fnd_mem hz
          have := (hdk.2.1 f z1).2.1.2
          rw [z2, q1] at this
          omega
      omega
  have etel : telR (plR r0.1 V.2.1) out (nI (szF out 0 fs1)) r0.2.2.2.1 r0.2.2.2.2 V.2.1 = V.2.1.set (plR r0.1 V.2.1) (r0.1, out, nI (szF out 0 fs1), r0.2.2.2.1, r0.2.2.2.2) := telR_set hr0
  have srs : SrtR (telR (plR r0.1 V.2.1) out (nI (szF out 0 fs1)) r0.2.2.2.1 r0.2.2.2.2 V.2.1) := srtR_map hW.1 (telR_keys _ _ _ _ _ _)
  have mrs : ∀ r, r ∈ telR (plR r0.1 V.2.1) out (nI (szF out 0 fs1)) r0.2.2.2.1 r0.2.2.2.2 V.2.1 → r = (r0.1, out, nI (szF out 0 fs1), r0.2.2.2.1, r0.2.2.2.2) ∨ (r ∈ V.2.1 ∧ r ≠ r0) := by
    intro r hr
    rw [etel] at hr
    exact set_mem hW.1 hr0 hr
  have hold : ∀ r, r ∈ telR (plR r0.1 V.2.1) out (nI (szF out 0 fs1)) r0.2.2.2.1 r0.2.2.2.2 V.2.1 → r.2.1 < V.2.2.1.2.1 → r ∈ V.2.1 ∧ r ≠ r0 := by
    intro r hr q
    rcases mrs r hr with z | z
    · rw [z] at q
      exact absurd q hout
    · exact z
  have hLV2 : LV V.2.2.1.2.1 (telR (plR r0.1 V.2.1) out (nI (szF out 0 fs1)) r0.2.2.2.1 r0.2.2.2.2 V.2.1) ms (i + 1) := by
    refine ⟨hLV.1, hLV.2.1, hLV.2.2.1, hLV.2.2.2.1, fun r hr q => ?_⟩
    obtain ⟨z1, z2⟩ := hold r hr q
    have hin := (rem_mem hW.1 hLV).mpr ⟨z1, q⟩
    rw [hrem] at hin
    rcases List.mem_cons.mp hin with w | w
    · exact absurd w z2
    · rw [hT] at w
      exact (List.mem_filter.mp w).1
  have hsub : (remL (telR (plR r0.1 V.2.1) out (nI (szF out 0 fs1)) r0.2.2.2.1 r0.2.2.2.2 V.2.1) ms (i + 1)).Sublist T := by
    rw [hT]
    refine filt_sub _ (fun y hy hs => ?_)
    have hin : y ∈ remL (telR (plR r0.1 V.2.1) out (nI (szF out 0 fs1)) r0.2.2.2.1 r0.2.2.2.2 V.2.1) ms (i + 1) := List.mem_filter.mpr ⟨hy, hs⟩
    obtain ⟨z1, z2⟩ := (rem_mem srs hLV2).mp hin
    have h3 := (rem_mem hW.1 hLV).mpr ⟨(hold y z1 z2).1, z2⟩
    exact (List.mem_filter.mp h3).2
  have fJ : ∀ j, j = 42 ∨ j = 45 ∨ j = 46 ∨ j = 34 → j ∉ [4, 8, 12, 14, 24, 35, 37, 43, 53] := fun j hj => by simp only [List.mem_cons, List.not_mem_nil, or_false]; omega
  have eK : ∀ q, q = 17 ∨ q = 18 ∨ q = 19 ∨ q = 20 ∨ q = 21 → S'.2 q = S.2 q := fun q hq => hf.2 q (by simp only [List.mem_cons, List.not_mem_nil, or_false]; omega)
  have flen : ((o0 ++ [(r0.1, out, nI (szF out 0 fs1), r0.2.2.2.1, r0.2.2.2.2)]).flatMap entB).length = (o0.flatMap entB).length + (14 + r0.1.length) := by
    rw [List.flatMap_append, List.length_append, List.flatMap_cons, List.flatMap_nil, List.append_nil, entB_len]
  have flo : (o0.flatMap entB).length ≤ szF out 0 fs1 := by
    rcases hcase with ⟨q1, q2, q3, q4, q5, _⟩ | ⟨_, _, q3, _⟩
    · rw [q1, q5]
      exact q4.2.2.2.2.1.1
    · rw [q3]
      exact Nat.zero_le _
  have hlen2 := scnt_len (appF out 0 bs fs1 sv).1
  refine ⟨⟨⟨?_, ?_, ?_, ?_, ?_, ?_⟩, ⟨?_, ?_, ?_, ?_⟩, ?_, ?_, ?_, ?_, ?_, ?_, ?_⟩, ⟨?_, ?_, w1, w2, w3, ?_, ?_⟩, ⟨?_, ?_⟩, ?_⟩
  · rw [e1]
    exact dk2.1
  · intro f hf2
    rw [e1] at hf2
    rw [e2]
    obtain ⟨g1, g2, g3⟩ := dk2.2.1 f hf2
    exact ⟨g1.elim Or.inl (fun z => Or.inr (Or.inl z)), g2, g3⟩
  · rw [e1]
    have := dk2.2.2.1
    have := dk2.2.2.2.2
    omega
  · rw [e2]
    exact f4
  · rw [e1, e2]
    exact dk2.2.2.2.2
  · intro f f' hf1 _ k1 _
    rw [e1] at hf1
    rcases (dk2.2.1 f hf1).1 with z | z
    · rw [z] at k1
      exact absurd k1 (by decide)
    · rw [z] at k1
      exact absurd k1 (by decide)
  · rw [e3]
    exact srs
  · intro r hr
    rw [e3] at hr
    rw [e1]
    rcases mrs r hr with z | ⟨z, _⟩
    · obtain ⟨y, y1, y2, _⟩ := fnd_app_eq (a := out) (b := 0) (part := bs) (sv := sv) hs1
      obtain ⟨_, x, P, W, q1, q2, q3, q4, q5, q6⟩ := hW.2.1 r0 (List.mem_of_getElem? hr0)
      obtain ⟨_, er, _⟩ := rcb_fit r1 ⟨q1, q2, q3, q4, q5, q6⟩
      rw [z]
      refine ⟨hk1, y, szF out 0 fs1, W, y1, rfl, q3, q4, q5, ?_⟩
      show szF out 0 fs1 + (14 + r0.1.length + W) ≤ y.2.2.1.length
      rw [y2, hbs, hn, er]
      exact Nat.le_refl _
    · obtain ⟨x, P, W, q⟩ := hfit r z
      obtain ⟨x', q', _⟩ := fit_app (a := out) (b := 0) (part := bs) (sv := sv) hs1 q
      exact ⟨(hW.2.1 r z).1, x', P, W, q'⟩
  · rw [e3, e1, telR_len, tot2]
    have := hW.2.2.1
    omega
  · intro q
    rw [e6, hop] at q
    exact absurd q (by decide)
  · rw [e6]
    exact c1
  · rw [e2]
    show 1 ≤ nx'.toInt ∧ nx'.toInt ≤ C
    omega
  · rw [e6]
    exact c3
  · rw [e6, e2, e1]
    rcases c4 with z | z
    · exact Or.inl z
    · refine Or.inr ⟨⟨z.1.1, ?_⟩, fun f hf2 => ?_⟩
      · show V.2.2.2.2.1.2.1.toInt < nx'.toInt
        omega
      · rw [fnd_app_ne hs1 (fun w => n5 w.1)] at hf2
        exact hac f hf2
  · intro q
    rw [e6, hop] at q
    exact absurd q (by decide)
  · rw [e1]
    exact dk2.2.2.1
  · rw [e4]
    show (be4 0 ++ _).length ≤ 8900
    rw [List.length_append, be4_len, flen]
    omega
  · obtain ⟨⟨s1, s2, s3, s4, s5, s6⟩, s7, s8, s9, s10⟩ := hRS
    unfold RelS
    rw [e2, e5, e6]
    refine ⟨⟨?_, ?_, w8, ?_, ?_, ?_⟩, ?_, ?_, ?_, ?_⟩
    · rw [hf.1 1 (by decide)]
      exact s1
    · rw [hf.1 2 (by decide)]
      exact s2
    · rw [hf.1 25 (by decide)]
      exact s4
    · rw [hf.1 26 (by decide)]
      exact s5
    · rw [hf.1 23 (by decide)]
      exact s6
    · rw [hf.1 19 (by decide)]
      exact s7
    · rw [hf.1 20 (by decide)]
      exact s8
    · rw [hf.1 21 (by decide)]
      exact s9
    · rw [hf.1 22 (by decide)]
      exact s10
  · refine ⟨w7, ?_, w4.2.1, ?_⟩
    · unfold lLen
      rw [eK 17 (by omega), eK 18 (by omega), eK 19 (by omega), eK 20 (by omega)]
      exact hArr.2.1
    · rw [eK 21 (by omega)]
      exact hArr.2.2.2
  · rw [e6]
    exact repT_fr r4 hf (by decide) (by decide)
  · rw [e6]
    exact repA_fr r5 hf (by decide) (by decide)
  · rw [e1, e2]
    exact dk2.2.2.2.1
  · intro q
    rw [e6, hop] at q
    exact absurd q (by decide)
  · refine Or.inr (Or.inl ?_)
    unfold M1 liOk outOk need1 oLv
    rw [e4, e1, e2, e3, e6]
    have eI : inpL V.2.2.1.2.1 (appF out 0 bs fs1 sv).1 = inpL V.2.2.1.2.1 V.1.1 := by
      rw [inpL_app (Or.inr hout)]
      exact hinp
    refine ⟨rfl, rfl, by rw [hf.1 34 (by decide)]; exact a3, w6, ⟨⟨l1.1, ?_⟩, ?_, ?_⟩, fun f hf2 k2 => ?_, ms, i + 1, o0 ++ [(r0.1, out, nI (szF out 0 fs1), r0.2.2.2.1, r0.2.2.2.2)], R1 - n, ⟨repL_fr hL hf (by decide) (by decide) (by decide) (by decide) (by decide), w5, by omega, hLV2⟩, ⟨by rw [eI]; exact repI_fr b5 hf (by decide) (by decide), by rw [eI, hf.1 46 (by decide)]; exact b6⟩, fun _ => ⟨w4, by simp, rfl, ?_, ⟨?_, ?_⟩, ⟨n4, n3⟩, n5, ?_⟩, rfl, w9, ?_, ?_⟩
    · show V.2.2.1.2.1.toInt ≤ nx'.toInt
      omega
    · exact l2
    · show 15 * cnw V.2.2.1.2.1 _ ≤ dby V.2.2.1.2.1 _
      rw [dby_app, if_pos ⟨rfl, hout⟩, hbs, hdby]
      have : cnw V.2.2.1.2.1 (telR (plR r0.1 V.2.1) out (nI (szF out 0 fs1)) r0.2.2.2.1 r0.2.2.2.2 V.2.1) ≤ cnw V.2.2.1.2.1 V.2.1 + 1 := by
        rw [etel, set_split hr0, cnw_app]
        have e : V.2.1 = V.2.1.take (plR r0.1 V.2.1) ++ r0 :: V.2.1.drop (plR r0.1 V.2.1 + 1) := by rw [← drop_cons hr0, List.take_append_drop]
        have e2 := congrArg (cnw V.2.2.1.2.1) e
        rw [cnw_app] at e2
        have h1 := cnw_cons V.2.2.1.2.1 (r0.1, out, nI (szF out 0 fs1), r0.2.2.2.1, r0.2.2.2.2) (V.2.1.drop (plR r0.1 V.2.1 + 1))
        have h2 := cnw_cons V.2.2.1.2.1 r0 (V.2.1.drop (plR r0.1 V.2.1 + 1))
        omega
      omega
    · rcases (dk2.2.1 f hf2).1 with z | z
      · rw [z] at k2
        exact absurd k2 (by decide)
      · rw [z] at k2
        exact absurd k2 (by decide)
    · rw [List.length_append, List.length_singleton]
    · show _ ≤ szF out 0 _
      rw [esz, flen]
      omega
    · show ((szF out 0 _ : Nat) : Int) ≤ V.1.2.2.2.2.1.toInt
      rw [esz]
      omega
    · show fndF out 1 _ = none
      rw [fnd_app_ne hs1 (fun z => absurd z.2 (by decide))]
      rcases hcase with ⟨q1, q2, q3, q4, q5, _⟩ | ⟨q1, _⟩
      · rw [q1, q5]
        exact q4.2.2.2.2.2.2.2
      · cases hz : fndF out 1 fs1 with
        | none => rfl
        | some f =>
          obtain ⟨z1, z2, _⟩ := fnd_mem hz
          have := (hdk.2.1 f z1).2.1.2
          rw [z2, q1] at this
          omega
    · show ((totF _ + (R1 - n) : Nat) : Int) ≤ V.1.2.2.2.1.toInt
      rw [tot2]
      omega
    · have hne : ¬ out = -1 := by
        intro q
        rw [q] at n2
        exact absurd n2 (by decide)
      show 8 + 4 * (inpL V.2.2.1.2.1 _).length + (if out = -1 then 0 else (hiC _).length) + pk V.1.2.2.2.2.1.toNatClampNeg _ (if out = -1 then none else some (szF out 0 _)) ≤ R1 - n
      rw [if_neg hne, if_neg hne, eI, esz, hiC_len, flen]
      have hsb := pkk_sub (fm := V.1.2.2.2.2.1.toNatClampNeg) hsub (some (szF out 0 fs1 + n))
      rcases hcase with ⟨_, _, _, _, _, q6, q7, q8⟩ | ⟨q1, _, q3, q4, q5⟩
      · rw [q7, pk_cons, if_pos (by rw [← hn]; exact q8), ← hn] at hneed
        rw [q6, hiC_len] at hneed
        omega
      · rw [q5] at hneed
        have hz : szF out 0 fs1 = 0 := by
          unfold szF
          cases hz : fndF out 0 fs1 with
          | none => rfl
          | some f =>
            obtain ⟨z1, z2, _⟩ := fnd_mem hz
            have := (hdk.2.1 f z1).2.1.2
            rw [z2, q1] at this
            omega
        have : pk V.1.2.2.2.2.1.toNatClampNeg (r0 :: T) none = 8 + (rcn r0 + 14 + r0.1.length) + pk V.1.2.2.2.2.1.toNatClampNeg T (some (rcn r0)) := rfl
        rw [this, ← hn] at hneed
        rw [hz, Nat.zero_add] at hsb ⊢
        rw [q3]
        show _ + (8 + (0 + _)) + _ ≤ _
        omega
end
