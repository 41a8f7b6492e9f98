/-! class and reference: the calls that only look -/
def th2 {ρ : Type} (m : Nat → Int32) (r : Nat ⊕ ρ) : Int32 := match r with
  | .inl j => m j
  | .inr _ => 0
def vl (r : Nat ⊕ Int32) : Int32 := match r with
  | .inl _ => 0
  | .inr v => v
theorem i4_eq (A B : Int32) : (2 + A) + B = (B + 1) + (A + 1) := by
  rw [show (2 : Int32) = 1 + 1 from rfl, Int32.add_comm (1 + 1 + A) B, Int32.add_assoc 1 1 A, Int32.add_comm 1 A, Int32.add_assoc B 1 (A + 1)]
theorem nodup_len {β : Type} [DecidableEq β] : ∀ (l l2 : List β), l.Nodup → (∀ x, x ∈ l → x ∈ l2) → l.length ≤ l2.length
  | [], _, _, _ => Nat.zero_le _
  | x :: l, l2, hn, hs => by
    obtain ⟨h1, h2⟩ := List.nodup_cons.mp hn
    have hx := hs x List.mem_cons_self
    have ih := nodup_len l (l2.erase x) h2 (fun y hy => (List.mem_erase_of_ne (fun (e : y = x) => h1 (by rw [← e]; exact hy))).mpr (hs y (List.mem_cons_of_mem _ hy)))
    rw [List.length_erase_of_mem hx] at ih
    have := List.length_pos_of_mem hx
    rw [List.length_cons]
    omega
theorem lies_irr (a : AR) : liesA a a = false := by
  unfold liesA
  refine decide_eq_false (fun q => ?_)
  rcases q with q | q
  · exact absurd q Int32.lt_irrefl
  · exact absurd q.2 Int32.lt_irrefl
theorem bhd_ne {a b : AR} (h : bhd a b) : a ≠ b := by
  intro e
  subst e
  rcases h with q | q
  · rw [lies_irr] at q
    cases q
  · rw [csg_refl] at q
    omega
theorem srtR_nodup {rs : List AR} (h : SrtR rs) : rs.Nodup := List.Pairwise.imp (fun {a b} q e => by
  subst e
  rw [csg_refl] at q
  omega) h
theorem lok_self {rs : List AR} {r : AR} (hS : SrtR rs) (h : r ∈ rs) : lokR r.1 rs = some r := by
  unfold lokR
  rw [srtR_mem hS h, Option.filter_some, if_pos (show isR r.1 r = true from decide_eq_true (csg_refl _))]
theorem rem_mem {li : Int32} {rs ms : List AR} {nl : Nat} {r : AR} (hS : SrtR rs) (h : LV li rs ms nl) : r ∈ remL rs ms nl ↔ r ∈ rs ∧ r.2.1 < li := by
  obtain ⟨h1, h2, h3, hnr, h4⟩ := h
  unfold remL
  rw [List.mem_filter]
  constructor
  · intro q
    have hm := List.mem_of_mem_drop q.1
    have hs := q.2
    unfold stl at hs
    cases hl : lokR r.1 rs with
    | none =>
      rw [hl] at hs
      cases hs
    | some d =>
      rw [hl] at hs
      have hs := of_decide_eq_true hs
      obtain ⟨g1, g2⟩ := Option.filter_eq_some_iff.mp hl
      have hd := List.mem_of_getElem? g1
      have g2 := of_decide_eq_true g2
      have hlt : d.2.1 < li := by
        rw [hs.1]
        exact h2 r hm
      have := h3 d r (List.mem_of_mem_drop (h4 d hd hlt)) hm g2
      subst this
      exact ⟨hd, hlt⟩
  · intro q
    refine ⟨h4 r q.1 q.2, ?_⟩
    unfold stl
    rw [lok_self hS q.1]
    exact decide_eq_true ⟨rfl, rfl⟩
theorem rem_len {li : Int32} {rs ms : List AR} {nl : Nat} (hS : SrtR rs) (h : LV li rs ms nl) : (remL rs ms nl).length = (rs.filter (fun r => decide (r.2.1 < li))).length := by
  have n1 : (remL rs ms nl).Nodup := by
    unfold remL
    exact List.Pairwise.sublist (List.filter_sublist.trans (List.drop_sublist _ _)) (List.Pairwise.imp (fun q => bhd_ne q) h.1)
  have n2 : (rs.filter (fun r => decide (r.2.1 < li))).Nodup := List.Pairwise.sublist List.filter_sublist (srtR_nodup hS)
  refine Nat.le_antisymm (nodup_len _ _ n1 (fun x hx => ?_)) (nodup_len _ _ n2 (fun x hx => ?_))
  · obtain ⟨a, b⟩ := (rem_mem hS h).mp hx
    exact List.mem_filter.mpr ⟨a, decide_eq_true b⟩
  · obtain ⟨a, b⟩ := List.mem_filter.mp hx
    exact (rem_mem hS h).mpr ⟨a, of_decide_eq_true b⟩
theorem rbel_nat (l : Int32) : ∀ (rs : List AR) (c : Int32), rbel l c rs = c + nI (rs.filter (fun r => decide (r.2.1 < l))).length
  | [], c => (Int32.add_zero c).symm
  | r :: rs, c => by
    have e : rbel l c (r :: rs) = rbel l (c + (if r.2.1 < l then 1 else 0)) rs := rfl
    rw [e, rbel_nat l rs, List.filter_cons]
    by_cases d : r.2.1 < l
    · rw [if_pos d, if_pos (decide_eq_true d), List.length_cons, ← nI_1, Int32.add_assoc, Int32.add_comm 1]
    · rw [if_neg d, if_neg (fun q => d (of_decide_eq_true q)), Int32.add_zero]
theorem inpL_cons (l : Int32) (f : AF) (fs : List AF) : inpL l (f :: fs) = (if f.2.1 = 0 ∧ f.1 < l then [f.1] else []) ++ inpL l fs := by
  unfold inpL dNum
  rw [List.filter_cons]
  by_cases d : f.1 < l
  · rw [if_pos (decide_eq_true d), List.filter_cons]
    by_cases e : f.2.1 = 0
    · rw [if_pos (decide_eq_true e), if_pos ⟨e, d⟩]
      rfl
    · rw [if_neg (fun q => e (of_decide_eq_true q)), if_neg (fun q => e q.1)]
      rfl
  · rw [if_neg (fun q => d (of_decide_eq_true q)), if_neg (fun q => d q.2)]
    rfl
theorem fcnt_nat (l : Int32) : ∀ (fs : List AF) (c : Int32), fcnt l c fs = c + nI (inpL l fs).length
  | [], c => (Int32.add_zero c).symm
  | f :: fs, c => by
    have e : fcnt l c (f :: fs) = fcnt l (c + (if f.2.1 = 0 ∧ f.1 < l then 1 else 0)) fs := rfl
    rw [e, fcnt_nat l fs, inpL_cons, List.length_append]
    by_cases d : f.2.1 = 0 ∧ f.1 < l
    · rw [if_pos d, if_pos d, List.length_singleton, Nat.add_comm, ← nI_1, Int32.add_assoc, Int32.add_comm 1]
    · rw [if_neg d, if_neg d, List.length_nil, Nat.zero_add, Int32.add_zero]
section
variable {m : Nat} {g : Gh} {S : MS} {α : Type} {t : Nat} {V : VC} {ps : List AV}
/-- tape, answer, and what was taken -/
theorem rel_tf {S' : MS} {tp fd tk : List Int32} (h : Rel t V S ps) (hT : RepT S' tp) (hA : RepA S' fd) (hf : mfr [0, 16, 18] [9, 10] S S') : Rel t (sB5 fd (sB1 tp (sB3 tk V))) S' ps := by
  obtain ⟨a, ⟨b1, b2, r1, r2, r3, r4, r5⟩, c, d⟩ := h
  have e : ∀ j, j ∉ [0, 16, 18] → S'.1 j = S.1 j := hf.1
  refine ⟨a, ⟨?_, arr_fr b2 hf (fun q hq => by simp only [List.mem_cons, List.not_mem_nil, or_false]; omega), repF_fr r1 hf (by decide) (by decide) (by decide) (by decide) (by decide) (by decide), repP_fr r2 hf (by decide) (by decide) (by decide) (by decide), repR_fr r3 hf (by decide) (fun q u1 u2 => by simp only [List.mem_cons, List.not_mem_nil, or_false]; omega), hT, hA⟩, c, ?_⟩
  · unfold RelS
    rw [e 1 (by decide), e 2 (by decide), e 24 (by decide), e 25 (by decide), e 26 (by decide), e 23 (by decide), e 19 (by decide), e 20 (by decide), e 21 (by decide), e 22 (by decide)]
    exact b1
  · have hJ : ∀ j, 34 ≤ j → j ∉ [0, 16, 18] := fun j hj => by simp only [List.mem_cons, List.not_mem_nil, or_false]; omega
    have hK : ∀ q, 17 ≤ q → q ∉ [9, 10] := fun j hj => by simp only [List.mem_cons, List.not_mem_nil, or_false]; omega
    rcases d with d | d | d
    · exact Or.inl (m0_fr d hf (by decide) (by decide))
    · exact Or.inr (Or.inl (m1_fr d hf hJ hK))
    · exact Or.inr (Or.inr (m2_fr d hf hJ hK))
theorem r_feed {x : Int32} {a b : Int64} {k : Int32 → M α} {Q : α → MS → Prop} (hM : Mk m g) (h : Rel t V S ps) (hk : ∀ S', Rel t (sFeed x a b V).2.1 S' ps → S'.1 0 = th2 (fun j => if j = 0 then 1 else 2) (sFeed x a b V).1 → okM m g (k (vl (sFeed x a b V).1)) S' Q) : okM m g (bd (X9_feed m x a b) k) S Q := by
  unfold sFeed at hk
  refine m_feed hM h.2.1.2.2.2.2.2.1 (fun c => ?_) (fun c c2 => ?_) (fun S' c c2 r1 r2 r3 => ?_)
  · rw [if_pos c] at hk
    exact hk _ (rel_0 h) rfl
  · rw [if_neg c, if_pos c2] at hk
    exact hk _ (rel_0 h) rfl
  · rw [if_neg c, if_neg c2] at hk
    refine hk S' (rel_tf (tk := V.2.2.2.2.2.1) h r1 (repA_fr h.2.1.2.2.2.2.2.2 r3 (by decide) (by decide)) (mfr_mono r3 (by decide) (by decide))) r2
theorem r_answer {x : Int32} {k : Int32 → M α} {Q : α → MS → Prop} (hM : Mk m g) (h : Rel t V S ps) (hk : ∀ S', Rel t V S' ps → okM m g (k (bat V.2.2.2.2.1.2.2.2.2 x)) S' Q) : okM m g (bd (X9_answer m x) k) S Q := m_answer hM h.2.1.2.2.2.2.2.2 (hk _ (rel_0 h))
theorem r_file {f w : Int32} {k : Int32 → M α} {Q : α → MS → Prop} (hM : Mk m g) (h : Rel t V S ps) (hk : ∀ S', Rel t V S' ps → okM m g (k (sFile f w V)) S' Q) : okM m g (bd (X9_file m f w) k) S Q := by
  refine m_file hM h.2.1.2.2.1 h.2.1.2.2.2.1 ?_
  have := hk _ (rel_0 (v := 0) h)
  unfold sFile at this
  cases hx : oat V.1.1 f with
  | none =>
    rw [hx] at this
    exact this
  | some x =>
    rw [hx] at this
    obtain ⟨j, hj⟩ := oat_mem hx
    dsimp only
    rw [prel_pfs h.2.2.1.1 (List.mem_of_getElem? hj)]
    exact this
theorem r_byteOf {f i : Int32} {k : Int32 → M α} {Q : α → MS → Prop} (hM : Mk m g) (h : Rel t V S ps) (hk : ∀ S', Rel t V S' ps → okM m g (k (sByte f i V)) S' Q) : okM m g (bd (X9_byteOf m f i) k) S Q := m_byteOf hM h.2.1.2.2.1 (hk _ (rel_0 h))
theorem r_entry {i w : Int32} {k : Int32 → M α} {Q : α → MS → Prop} (hM : Mk m g) (h : Rel t V S ps) (hk : ∀ S', Rel t V S' ps → okM m g (k (sEntry i w V)) S' Q) : okM m g (bd (X9_entry m i w) k) S Q := by
  have := hk _ (rel_0 (v := 0) h)
  unfold sEntry at this
  rw [← h.2.1.1.1.2.2.2.2.2] at this
  exact m_entry hM h.2.1.2.2.2.2.1 this
theorem r_key {i j : Int32} {k : Int32 → M α} {Q : α → MS → Prop} (hM : Mk m g) (h : Rel t V S ps) (hk : ∀ S', Rel t V S' ps → okM m g (k (sKey i j V)) S' Q) : okM m g (bd (X9_key m i j) k) S Q := by
  have := hk _ (rel_0 (v := 0) h)
  unfold sKey at this
  rw [← h.2.1.1.1.2.2.2.2.2] at this
  exact m_key hM h.2.1.2.2.2.2.1 this
theorem r_bad {k : Int32 → M α} {Q : α → MS → Prop} (hM : Mk m g) (h : Rel t V S ps) (hk : ∀ S' v, Rel t (sBad V).2.1 S' ps → S'.1 0 = th2 (fun _ => 1) (sBad V).1 → ((sBad V).1 = .inl 1 ∨ v = vl (sBad V).1) → okM m g (k v) S' Q) : okM m g (bd (X9_bad m) k) S Q := by
  have e23 := h.2.1.1.1.2.2.2.2.2
  unfold sBad at hk
  refine m_bad hM h.2.1.2.2.1 h.1.1.1 h.2.1.2.2.2.2.1 (fun r hr => (h.1.2.1.2.1 r hr).2) (fun c v => ?_) (fun c => ?_)
  · rw [e23] at c
    rw [if_pos c] at hk
    exact hk _ v (rel_0 h) rfl (Or.inl rfl)
  · rw [e23] at c
    rw [if_neg c] at hk
    exact hk _ _ (rel_0 h) rfl (Or.inr rfl)
theorem r_get {k : Int32 → M α} {Q : α → MS → Prop} (hM : Mk m g) (h : Rel t V S ps) (hk : ∀ S', Rel t (sGet V).2.1 S' ps → S'.1 0 = th2 (fun _ => 1) (sGet V).1 → okM m g (k (vl (sGet V).1)) S' Q) : okM m g (bd (X9_get m) k) S Q := by
  have e23 := h.2.1.1.1.2.2.2.2.2
  obtain ⟨r1, r2, r3, r4, r5⟩ := h.2.1.2.2
  refine m_get hM r1 h.1.1.1 r3 r4 r5 h.1.2.1.2.1 (fun S' c q1 q2 q3 => ?_) (fun S' c q1 q2 q3 q4 => ?_)
  · rw [e23] at c
    unfold sGet at hk
    dsimp only at hk
    rw [if_pos c] at hk
    exact hk S' (rel_tf h q1 (repA_fr r5 q3 (by decide) (by decide)) (mfr_mono q3 (by decide) (by decide))) q2
  · rw [e23] at c
    have key : ∀ (fd : List Int32) (v : Int32), gtR V.2.2.2.2.1.2.2.2.1 V.2.1 V.1.1 = (v, fd) → sGet V = (.inr v, sB5 fd (sB1 [] (sB3 V.2.2.2.2.1.2.2.2.1 V)), 0) → okM m g (k (gtR V.2.2.2.2.1.2.2.2.1 V.2.1 V.1.1).1) S' Q := by
      intro fd v e1 e2
      rw [e2] at hk
      rw [e1] at q2 ⊢
      exact hk S' (rel_tf h q1 q2 (mfr_mono q4 (by decide) (by decide))) q3
    unfold gtR sGet at key
    dsimp only at key
    rw [if_neg c] at key
    unfold gtR
    cases hl : lokR V.2.2.2.2.1.2.2.2.1 V.2.1 with
    | none =>
      rw [hl] at key
      exact key _ _ rfl rfl
    | some r =>
      rw [hl] at key
      dsimp only at key ⊢
      cases hf : fndF r.2.1 0 V.1.1 with
      | none =>
        rw [hf] at key
        exact key _ _ rfl rfl
      | some f =>
        rw [hf] at key
        dsimp only at key ⊢
        cases hb : badR r f.2.2.1 with
        | true =>
          rw [hb] at key
          exact key _ _ rfl rfl
        | false =>
          rw [hb] at key
          exact key _ _ rfl rfl
theorem units_eq {B : Int} {ms : List AR} {nl : Nat} (h : RelB t B V S ps) (hL : M1 V S → RepL S ms ∧ S.1 43 = nI nl ∧ LV V.2.2.1.2.1 V.2.1 ms nl) : ulM S V.2.1 ms nl = sUnits V := by
  unfold ulM sUnits
  rcases h.2.2.2 with d | d | d
  · rw [if_pos d.2.1, if_pos d.1]
  · obtain ⟨_, _, hv⟩ := hL d
    obtain ⟨a1, a2, a3, a4, a5, a6, ms', nl', os, R, b1, ⟨b5, b6⟩, b7⟩ := d
    rw [if_neg (by rw [a3]; decide), if_neg (by rw [a3]; decide), if_neg (by rw [a1]; decide), if_neg (fun q => q a2)]
    have e1 := rem_len h.1.2.1.1 hv
    unfold remL at e1
    rw [e1, rbel_nat, fcnt_nat, b5.1.1, Int32.zero_add, Int32.zero_add]
    exact i4_eq _ _
  · obtain ⟨a1, a2, a3, a4, a5, a6, a7, a8, a9, a10, a11, a12, is, ni, b1, b2, b3, b4⟩ := d
    rw [if_neg (by rw [a3]; decide), if_pos a3, if_neg (by rw [a1]; decide), if_pos a2, b1.1.1, b2, nI_subN b3, fcnt_nat, ← b4, List.length_drop, Int32.zero_add]
theorem res_eq (h : Rel t V S ps) : resM S = V.2.2.1.2.2.2.2.2.1 := by
  unfold resM
  rcases h.2.2.2 with d | d | d
  · rw [if_neg (by rw [d.2.1]; decide)]
    exact d.2.2.2.2.2.1.symm
  · obtain ⟨a1, a2, a3, a4, a5, a6, ms', nl', os, R, b1, b5, b7, b8, b9, b10⟩ := d
    rw [if_pos a3, b9, b8]
  · obtain ⟨a1, a2, a3, a4, a5, a6, a7, a8, a9, a10, a11⟩ := d
    rw [if_neg (by rw [a3]; decide), a10]
theorem out_eq (h : Rel t V S ps) : (if S.1 34 = 1 then S.1 35 else -1) = V.2.2.1.2.2.1 := by
  rcases h.2.2.2 with d | d | d
  · rw [if_neg (by rw [d.2.1]; decide)]
    exact d.2.2.2.1.symm
  · rw [if_pos d.2.2.1]
    exact d.2.2.2.1
  · rw [if_neg (by rw [d.2.2.1]; decide)]
    exact d.2.2.2.2.1.symm
theorem r_look {w : Int32} {k : Int32 → M α} {Q : α → MS → Prop} (hM : Mk m g) (h : Rel t V S ps) (hk : ∀ S', Rel t V S' ps → okM m g (k (sLook w V)) S' Q) : okM m g (bd (X9_look m w) k) S Q := by
  obtain ⟨⟨s1, s2, s3, s4, s5, s6⟩, c1, c2, c3, c4⟩ := h.2.1.1
  obtain ⟨r1, r2, r3, r4, r5⟩ := h.2.1.2.2
  obtain ⟨u1, u2⟩ := prel_uns h.1.1.1 h.2.2.1.1
  have main : ∀ (ms : List AR) (nl : Nat), (S.1 34 ≠ 0 → S.1 34 ≠ 2 → RepL S ms ∧ S.1 43 = nI nl ∧ nl ≤ ms.length) → (M1 V S → RepL S ms ∧ S.1 43 = nI nl ∧ LV V.2.2.1.2.1 V.2.1 ms nl) → okM m g (bd (X9_look m w) k) S Q := by
    intro ms nl hL hL2
    refine m_look (ms := ms) (nl := nl) hM r1 r2 r3 hL ?_
    have := hk _ (rel_0 (v := 0) h)
    have e : (if 10 < w ∧ S.1 23 = 0 then -1 else lkM w S V.1.1 ps V.2.1 ms nl) = sLook w V := by
      unfold lkM sLook sInside
      rw [units_eq h hL2, res_eq h, out_eq h, s1, s2, s3, s4, s5, s6, c1, c2, c3, c4, froom_nat, u1, u2, r4.1]
      by_cases d : 10 < w ∧ V.2.2.2.2.1.1 = 0
      · rw [if_pos d]
        have nn : ∀ k : Int32, k ≤ 10 → ¬ w = k := fun k hk e => by
          rw [e] at d
          exact absurd hk (Int32.not_le.mpr d.1)
        rw [if_neg (nn 0 (by decide)), if_neg (nn 1 (by decide)), if_neg (nn 2 (by decide)), if_neg (nn 3 (by decide)), if_neg (nn 4 (by decide)), if_neg (nn 5 (by decide)), if_neg (nn 6 (by decide)), if_neg (nn 7 (by decide)), if_neg (nn 8 (by decide)), if_neg (nn 9 (by decide)), if_neg (nn 10 (by decide)), if_pos d.2]
      · rw [if_neg d]
        by_cases o : V.2.2.2.2.1.1 = 0
        · have nw : ∀ k : Int32, 10 < k → ¬ w = k := fun k hk e => d ⟨by rw [e]; exact hk, o⟩
          rw [if_neg (nw 11 (by decide)), if_neg (nw 12 (by decide)), if_neg (nw 13 (by decide)), if_neg (nw 14 (by decide)), if_neg (nw 15 (by decide)), if_neg (nw 16 (by decide)), if_neg (nw 17 (by decide)), if_neg (nw 18 (by decide)), if_neg (nw 19 (by decide)), if_pos o, if_pos o]
        · rw [if_neg o, if_neg o]
    rw [e]
    exact this
  rcases h.2.2.2 with d | d | d
  · exact main [] 0 (fun q => absurd d.2.1 q) (fun q => absurd d.1 (by rw [q.1]; decide))
  · obtain ⟨a1, a2, a3, a4, a5, a6, ms, nl, os, R, ⟨b1, b2, b3, b4⟩, _⟩ := d
    exact main ms nl (fun _ _ => ⟨b1, b2, b3⟩) (fun _ => ⟨b1, b2, b4⟩)
  · exact main [] 0 (fun _ q => absurd d.2.2.1 q) (fun q => absurd q.2.1 d.2.1)
end
