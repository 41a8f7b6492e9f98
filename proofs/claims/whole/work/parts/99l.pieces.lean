/-! what has not been synced: pieces and arrivals -/
def col (ps : List AV) : List AV := ps.foldl (fun l p => noteA p.1 p.2.1 p.2.2 l) []
def pnat (a b : Int32) : List AV → Nat
  | [] => 0
  | p :: ps => (if p.1 = a ∧ p.2.1 = b then p.2.2.toNatClampNeg else 0) + pnat a b ps
def ptot : List AV → Nat
  | [] => 0
  | p :: ps => p.2.2.toNatClampNeg + ptot ps
/-- pieces: each of a file, none small, no more of a file than it has -/
def Pcs (fs : List AF) (ps : List AV) : Prop := (∀ p, p ∈ ps → (p.2.2 = nI p.2.2.toNatClampNeg ∧ 12 ≤ p.2.2.toNatClampNeg) ∧ ∃ f, f ∈ fs ∧ f.1 = p.1 ∧ f.2.1 = p.2.1) ∧ ∀ f, f ∈ fs → pnat f.1 f.2.1 ps ≤ f.2.2.1.length ∧ (pnat f.1 f.2.1 ps = 0 ∨ f.2.2.1.length = pnat f.1 f.2.1 ps ∨ 12 + pnat f.1 f.2.1 ps ≤ f.2.2.1.length)
theorem col_snoc (ps : List AV) (p : AV) : col (ps ++ [p]) = noteA p.1 p.2.1 p.2.2 (col ps) := by
  unfold col
  rw [List.foldl_append]
  rfl
theorem pnat_app (a b : Int32) : ∀ (ps qs : List AV), pnat a b (ps ++ qs) = pnat a b ps + pnat a b qs
  | [], qs => (Nat.zero_add _).symm
  | p :: ps, qs => by
    show _ + pnat a b (ps ++ qs) = _ + pnat a b ps + pnat a b qs
    rw [pnat_app a b ps qs]
    omega
theorem ptot_app : ∀ (ps qs : List AV), ptot (ps ++ qs) = ptot ps + ptot qs
  | [], qs => (Nat.zero_add _).symm
  | p :: ps, qs => by
    show _ + ptot (ps ++ qs) = _ + ptot ps + ptot qs
    rw [ptot_app ps qs]
    omega
theorem pfs_nat (a b : Int32) : ∀ (ps : List AV) (c : Int32), (∀ p, p ∈ ps → p.2.2 = nI p.2.2.toNatClampNeg) → pfs a b c ps = c + nI (pnat a b ps)
  | [], c, _ => (Int32.add_zero c).symm
  | p :: ps, c, h => by
    have hp := h p List.mem_cons_self
    have ih := pfs_nat a b ps
    have e : pfs a b c (p :: ps) = pfs a b (if p.1 = a ∧ p.2.1 = b then c + p.2.2 else c) ps := rfl
    rw [e, ih _ (fun q hq => h q (List.mem_cons_of_mem _ hq))]
    by_cases d : p.1 = a ∧ p.2.1 = b
    · rw [if_pos d]
      show _ = c + nI ((if p.1 = a ∧ p.2.1 = b then p.2.2.toNatClampNeg else 0) + pnat a b ps)
      rw [if_pos d, ← nI_add, ← hp, Int32.add_assoc]
    · rw [if_neg d]
      show _ = c + nI ((if p.1 = a ∧ p.2.1 = b then p.2.2.toNatClampNeg else 0) + pnat a b ps)
      rw [if_neg d, Nat.zero_add]
theorem psum_nat : ∀ (ps : List AV) (c : Int32), (∀ p, p ∈ ps → p.2.2 = nI p.2.2.toNatClampNeg) → psum c ps = c + nI (ptot ps)
  | [], c, _ => (Int32.add_zero c).symm
  | p :: ps, c, h => by
    have hp := h p List.mem_cons_self
    have e : psum c (p :: ps) = psum (c + p.2.2) ps := rfl
    rw [e, psum_nat ps _ (fun q hq => h q (List.mem_cons_of_mem _ hq))]
    show _ = c + nI (p.2.2.toNatClampNeg + ptot ps)
    rw [← nI_add, ← hp, Int32.add_assoc]
theorem ptot_8 : ∀ (ps : List AV), (∀ p, p ∈ ps → 8 ≤ p.2.2.toNatClampNeg) → 8 * ps.length ≤ ptot ps
  | [], _ => Nat.le_refl _
  | p :: ps, h => by
    have h1 := h p List.mem_cons_self
    have h2 := ptot_8 ps (fun q hq => h q (List.mem_cons_of_mem _ hq))
    show 8 * (ps.length + 1) ≤ p.2.2.toNatClampNeg + ptot ps
    omega
/-- the sum over files of what is theirs is all, where each piece is of a file -/
def fsP (ps : List AV) : List AF → Nat
  | [] => 0
  | f :: fs => pnat f.1 f.2.1 ps + fsP ps fs
theorem fsP_nil : ∀ (fs : List AF), fsP [] fs = 0
  | [] => rfl
  | f :: fs => by
    show 0 + fsP [] fs = 0
    rw [fsP_nil fs]
theorem fsP_cons (p : AV) (ps : List AV) : ∀ (fs : List AF), fsP (p :: ps) fs = fsP [p] fs + fsP ps fs
  | [] => rfl
  | f :: fs => by
    show ((if p.1 = f.1 ∧ p.2.1 = f.2.1 then p.2.2.toNatClampNeg else 0) + pnat f.1 f.2.1 ps) + fsP (p :: ps) fs = (((if p.1 = f.1 ∧ p.2.1 = f.2.1 then p.2.2.toNatClampNeg else 0) + 0) + fsP [p] fs) + (pnat f.1 f.2.1 ps + fsP ps fs)
    rw [fsP_cons p ps fs]
    omega
theorem fsP_none (p : AV) : ∀ (fs : List AF), (∀ f, f ∈ fs → ¬ (f.1 = p.1 ∧ f.2.1 = p.2.1)) → fsP [p] fs = 0
  | [], _ => rfl
  | f :: fs, h => by
    show ((if p.1 = f.1 ∧ p.2.1 = f.2.1 then p.2.2.toNatClampNeg else 0) + 0) + fsP [p] fs = 0
    rw [fsP_none p fs (fun f hf => h f (List.mem_cons_of_mem _ hf)), if_neg (fun q => h f List.mem_cons_self ⟨q.1.symm, q.2.symm⟩)]
theorem fsP_one (p : AV) : ∀ (fs : List AF), SrtF fs → (∃ f, f ∈ fs ∧ f.1 = p.1 ∧ f.2.1 = p.2.1) → fsP [p] fs = p.2.2.toNatClampNeg
  | [], _, ⟨f, hf, _⟩ => by cases hf
  | f :: fs, hS, ⟨x, hx, e1, e2⟩ => by
    have hp := List.pairwise_cons.mp hS
    show ((if p.1 = f.1 ∧ p.2.1 = f.2.1 then p.2.2.toNatClampNeg else 0) + 0) + fsP [p] fs = _
    by_cases c : p.1 = f.1 ∧ p.2.1 = f.2.1
    · have hno : ∀ y, y ∈ fs → ¬ (y.1 = p.1 ∧ y.2.1 = p.2.1) := by
        intro y hy q
        rcases hp.1 y hy with z | z
        · rw [← c.1, q.1] at z
          exact absurd z Int32.lt_irrefl
        · rw [← c.2, q.2] at z
          exact absurd z.2 Int32.lt_irrefl
      rw [if_pos c, fsP_none p fs hno, Nat.add_zero]
    · rw [if_neg c]
      rcases List.mem_cons.mp hx with q | q
      · subst q
        exact absurd ⟨e1.symm, e2.symm⟩ c
      · rw [fsP_one p fs hp.2 ⟨x, q, e1, e2⟩]
        omega
theorem fsP_tot {fs : List AF} (hS : SrtF fs) : ∀ (ps : List AV), (∀ p, p ∈ ps → ∃ f, f ∈ fs ∧ f.1 = p.1 ∧ f.2.1 = p.2.1) → fsP ps fs = ptot ps
  | [], _ => fsP_nil fs
  | p :: ps, h => by
    rw [fsP_cons, fsP_one p fs hS (h p List.mem_cons_self), fsP_tot hS ps (fun q hq => h q (List.mem_cons_of_mem _ hq))]
    rfl
theorem fsP_le (ps : List AV) : ∀ (fs : List AF), (∀ f, f ∈ fs → pnat f.1 f.2.1 ps ≤ f.2.2.1.length) → fsP ps fs ≤ totF fs
  | [], _ => Nat.le_refl _
  | f :: fs, h => by
    have h1 := h f List.mem_cons_self
    have h2 := fsP_le ps fs (fun f hf => h f (List.mem_cons_of_mem _ hf))
    show pnat f.1 f.2.1 ps + fsP ps fs ≤ f.2.2.1.length + totF fs
    omega
theorem pcs_tot {fs : List AF} {ps : List AV} (hS : SrtF fs) (h : Pcs fs ps) : ptot ps ≤ totF fs ∧ 8 * ps.length ≤ totF fs := by
  have h1 := fsP_tot hS ps (fun p hp => (h.1 p hp).2)
  have h2 := fsP_le ps fs (fun f hf => (h.2 f hf).1)
  have h3 := ptot_8 ps (fun p hp => by have := (h.1 p hp).1.2; omega)
  omega
theorem funs_nat (ps : List AV) : ∀ (fs : List AF) (c : Int32), (∀ f, f ∈ fs → f.2.2.2.2 = nI (pnat f.1 f.2.1 ps)) → funs c fs = c + nI (fsP ps fs)
  | [], c, _ => (Int32.add_zero c).symm
  | f :: fs, c, h => by
    have e : funs c (f :: fs) = funs (c + f.2.2.2.2) fs := rfl
    rw [e, funs_nat ps fs _ (fun f hf => h f (List.mem_cons_of_mem _ hf)), h f List.mem_cons_self, Int32.add_assoc, nI_add]
    rfl
theorem froom_nat : ∀ (fs : List AF) (c : Int32), froom c fs = c - nI (totF fs)
  | [], c => by
    show c = c - nI 0
    have : nI 0 = 0 := rfl
    rw [this, Int32.sub_zero]
  | f :: fs, c => by
    have e : froom c (f :: fs) = froom (c - nI f.2.2.1.length) fs := rfl
    rw [e, froom_nat fs]
    show _ = c - nI (f.2.2.1.length + totF fs)
    rw [← nI_add, Int32.sub_eq_add_neg, Int32.sub_eq_add_neg, Int32.sub_eq_add_neg, Int32.neg_add, Int32.add_assoc, Int32.sub_eq_add_neg]
/-- class and reference, of what has not been synced -/
def PRel (fs : List AF) (ar ps : List AV) : Prop := ar = col ps ∧ Pcs fs ps ∧ ∀ f, f ∈ fs → f.2.2.2.2 = nI (pnat f.1 f.2.1 ps)
theorem prel_uns {fs : List AF} {ar ps : List AV} (hS : SrtF fs) (h : PRel fs ar ps) : funs 0 fs = nI (ptot ps) ∧ psum 0 ps = nI (ptot ps) := by
  rw [funs_nat ps fs 0 h.2.2, psum_nat ps 0 (fun p hp => (h.2.1.1 p hp).1.1), fsP_tot hS ps (fun p hp => (h.2.1.1 p hp).2), Int32.zero_add]
  exact ⟨rfl, rfl⟩
theorem prel_pfs {fs : List AF} {ar ps : List AV} (h : PRel fs ar ps) {f : AF} (hf : f ∈ fs) : pfs f.1 f.2.1 0 ps = f.2.2.2.2 := by
  rw [pfs_nat _ _ ps 0 (fun p hp => (h.2.1.1 p hp).1.1), h.2.2 f hf, Int32.zero_add]
theorem noteA_len (a b c : Int32) (l : List AV) : (noteA a b c l).length ≤ l.length + 1 := by
  unfold noteA
  split
  · rw [List.length_append]
    exact Nat.le_refl _
  · split
    · rw [List.length_append, List.length_dropLast, List.length_singleton]
      omega
    · rw [List.length_append]
      exact Nat.le_refl _
theorem col_len (ps : List AV) : (col ps).length ≤ ps.length := by
  have : ∀ (ps l : List AV), (ps.foldl (fun l p => noteA p.1 p.2.1 p.2.2 l) l).length ≤ l.length + ps.length := by
    intro ps
    induction ps with
    | nil => exact fun l => Nat.le_refl _
    | cons p ps ih =>
      intro l
      have h1 := ih (noteA p.1 p.2.1 p.2.2 l)
      have h2 := noteA_len p.1 p.2.1 p.2.2 l
      rw [List.foldl_cons, List.length_cons]
      omega
  have h := this ps []
  rw [List.length_nil, Nat.zero_add] at h
  exact h
theorem fnd_mem {a b : Int32} {fs : List AF} {f : AF} (h : fndF a b fs = some f) : f ∈ fs ∧ f.1 = a ∧ f.2.1 = b := by
  obtain ⟨q1, q2, q3⟩ := fndF_some h
  exact ⟨List.mem_of_getElem? q1, q2, q3⟩
/-- the files, behind an append -/
theorem app_mem {a b : Int32} {part : List Int32} {fs : List AF} {sv : List Nat} {x : AF} (hS : SrtF fs) (hx : x ∈ (appF a b part fs sv).1) : (x ∈ fs ∧ ¬ (x.1 = a ∧ x.2.1 = b)) ∨ (∃ f, fndF a b fs = some f ∧ x = upF part f) ∨ (fndF a b fs = none ∧ ∃ c, x = upF part (a, b, [], c, 0)) := by
  unfold appF at hx
  cases h : (fs[plF a b fs]?).filter (isF a b) with
  | some f =>
    rw [h] at hx
    have hf : fndF a b fs = some f := h
    obtain ⟨q1, q2, q3⟩ := fndF_some hf
    have hx : x ∈ fs.set (plF a b fs) (upF part f) := hx
    rw [set_split q1] at hx
    have hd := dis_at hS q1
    rw [q2, q3] at hd
    have e2 : fs.take (plF a b fs) ++ fs.drop (plF a b fs + 1) = disF a b fs := by
      rw [hd, era_split q1]
    rcases List.mem_append.mp hx with q | q
    · have : x ∈ disF a b fs := by
        rw [← e2]
        exact List.mem_append_left _ q
      exact Or.inl ((mem_disF hS).mp this)
    · rcases List.mem_cons.mp q with q | q
      · exact Or.inr (Or.inl ⟨f, hf, q⟩)
      · have : x ∈ disF a b fs := by
          rw [← e2]
          exact List.mem_append_right _ q
        exact Or.inl ((mem_disF hS).mp this)
  | none =>
    rw [h] at hx
    have hf : fndF a b fs = none := h
    have hx : x ∈ insF (plF a b fs) (upF part (a, b, [], lastC sv, 0)) fs := hx
    unfold insF at hx
    have hno := (fnd_none (a := a) (b := b) hS).mp (by rw [hf]; rfl)
    rcases List.mem_append.mp hx with q | q
    · exact Or.inl ⟨List.mem_of_mem_take q, hno x (List.mem_of_mem_take q)⟩
    · rcases List.mem_cons.mp q with q | q
      · exact Or.inr (Or.inr ⟨hf, _, q⟩)
      · exact Or.inl ⟨List.mem_of_mem_drop q, hno x (List.mem_of_mem_drop q)⟩
theorem mem_app {a b : Int32} {part : List Int32} {fs : List AF} {sv : List Nat} {x : AF} (hx : x ∈ fs) : (¬ (x.1 = a ∧ x.2.1 = b) → x ∈ (appF a b part fs sv).1) := by
  intro hn
  unfold appF
  cases h : (fs[plF a b fs]?).filter (isF a b) with
  | some f =>
    have hf : fndF a b fs = some f := h
    obtain ⟨q1, q2, q3⟩ := fndF_some hf
    show x ∈ fs.set (plF a b fs) (upF part f)
    obtain ⟨i, hi⟩ := List.mem_iff_getElem?.mp hx
    refine List.mem_iff_getElem?.mpr ⟨i, ?_⟩
    rw [List.getElem?_set]
    by_cases c : plF a b fs = i
    · rw [c] at q1
      rw [hi] at q1
      cases q1
      exact absurd ⟨q2, q3⟩ hn
    · rw [if_neg c]
      exact hi
  | none =>
    show x ∈ insF _ _ fs
    unfold insF
    rw [← List.take_append_drop (plF a b fs) fs] at hx
    rcases List.mem_append.mp hx with q | q
    · exact List.mem_append_left _ q
    · exact List.mem_append_right _ (List.mem_cons_of_mem _ q)
/-- the file that an append writes to -/
theorem app_has {a b : Int32} {part : List Int32} {fs : List AF} {sv : List Nat} (hS : SrtF fs) : ∃ x, fndF a b (appF a b part fs sv).1 = some x ∧ x ∈ (appF a b part fs sv).1 ∧ SrtF (appF a b part fs sv).1 ∧ ((∃ f, fndF a b fs = some f ∧ x = upF part f) ∨ (fndF a b fs = none ∧ ∃ c, x = upF part (a, b, [], c, 0))) ∧ totF (appF a b part fs sv).1 = totF fs + part.length := by
  unfold appF
  cases h : (fs[plF a b fs]?).filter (isF a b) with
  | some f =>
    have hf : fndF a b fs = some f := h
    obtain ⟨q1, q2, q3⟩ := fndF_some hf
    have lp := lt_of_some q1
    have s2 : SrtF (fs.set (plF a b fs) (upF part f)) := srt_set hS q1 rfl rfl
    have g2 : (fs.set (plF a b fs) (upF part f))[plF a b fs]? = some (upF part f) := by
      rw [List.getElem?_set, if_pos rfl, if_pos lp]
    have f2 := (fndF_at s2 g2).1
    have f2 : fndF f.1 f.2.1 (fs.set (plF a b fs) (upF part f)) = some (upF part f) := f2
    rw [q2, q3] at f2
    refine ⟨upF part f, f2, List.mem_of_getElem? g2, s2, Or.inl ⟨f, hf, rfl⟩, ?_⟩
    show totF (fs.set (plF a b fs) (upF part f)) = _
    rw [set_split q1, totF_app, totF_take q1]
    show totF _ + ((f.2.2.1 ++ part).length + totF _) = _
    rw [List.length_append]
    omega
  | none =>
    have hf : fndF a b fs = none := h
    have hno := (fnd_none (a := a) (b := b) hS).mp (by rw [hf]; rfl)
    have s2 : SrtF (insF (plF a b fs) (upF part (a, b, [], lastC sv, 0)) fs) := srt_ins hS ⟨rfl, rfl⟩ (fun f hf => hno f (List.mem_of_getElem? hf))
    have lp := plF_le a b fs
    have g2 : (insF (plF a b fs) (upF part (a, b, [], lastC sv, 0)) fs)[plF a b fs]? = some (upF part (a, b, [], lastC sv, 0)) := by
      unfold insF
      rw [List.getElem?_append_right (by rw [List.length_take]; omega), List.length_take, Nat.min_eq_left lp, Nat.sub_self]
      rfl
    have f2 := (fndF_at s2 g2).1
    refine ⟨_, f2, List.mem_of_getElem? g2, s2, Or.inr ⟨hf, _, rfl⟩, ?_⟩
    show totF (insF _ _ fs) = _
    unfold insF
    rw [totF_app]
    conv => rhs; rw [← List.take_append_drop (plF a b fs) fs, totF_app]
    show totF _ + (([] ++ part).length + totF _) = _
    rw [List.nil_append]
    omega
/-- an append, and the pieces -/
theorem prel_app {a b : Int32} {part : List Int32} {fs : List AF} {sv : List Nat} {ar ps : List AV} (hS : SrtF fs) (h : PRel fs ar ps) (hp : 12 ≤ part.length) (hp2 : part.length ≤ 16384) (hbase : ∀ f, fndF a b fs = some f → 12 ≤ f.2.2.1.length) : PRel (appF a b part fs sv).1 (noteA a b (nI part.length) ar) (ps ++ [(a, b, nI part.length)]) := by
  obtain ⟨h1, ⟨h2, h3⟩, h4⟩ := h
  obtain ⟨x, x1, x2, x3, x4, x5⟩ := app_has (a := a) (b := b) (part := part) (sv := sv) hS
  obtain ⟨_, xa, xb⟩ := fnd_mem x1
  have cl : (nI part.length).toNatClampNeg = part.length := by
    show (nI part.length).toInt.toNat = _
    rw [nI_toInt (by omega)]
    rfl
  have pn : ∀ y : AF, pnat y.1 y.2.1 (ps ++ [(a, b, nI part.length)]) = pnat y.1 y.2.1 ps + (if a = y.1 ∧ b = y.2.1 then part.length else 0) := by
    intro y
    rw [pnat_app]
    show _ + ((if a = y.1 ∧ b = y.2.1 then (nI part.length).toNatClampNeg else 0) + 0) = _
    rw [cl, Nat.add_zero]
  refine ⟨by rw [col_snoc, h1], ⟨fun p hp1 => ?_, fun y hy => ?_⟩, fun y hy => ?_⟩
  · rcases List.mem_append.mp hp1 with q | q
    · obtain ⟨g1, f, g2, g3, g4⟩ := h2 p q
      refine ⟨g1, ?_⟩
      by_cases c : f.1 = a ∧ f.2.1 = b
      · exact ⟨x, x2, by rw [xa, ← c.1]; exact g3, by rw [xb, ← c.2]; exact g4⟩
      · exact ⟨f, mem_app g2 c, g3, g4⟩
    · rw [List.mem_singleton] at q
      subst q
      exact ⟨⟨by rw [cl], by rw [cl]; exact hp⟩, x, x2, xa, xb⟩
  · rw [pn]
    rcases app_mem hS hy with ⟨q1, q2⟩ | ⟨f, q1, q2⟩ | ⟨q1, c, q2⟩
    · rw [if_neg (fun z => q2 ⟨z.1.symm, z.2.symm⟩)]
      exact h3 y q1
    · obtain ⟨m1, m2, m3⟩ := fnd_mem q1
      rw [q2]
      show pnat f.1 f.2.1 ps + (if a = f.1 ∧ b = f.2.1 then part.length else 0) ≤ (f.2.2.1 ++ part).length ∧ (pnat f.1 f.2.1 ps + (if a = f.1 ∧ b = f.2.1 then part.length else 0) = 0 ∨ (f.2.2.1 ++ part).length = pnat f.1 f.2.1 ps + (if a = f.1 ∧ b = f.2.1 then part.length else 0) ∨ 12 + (pnat f.1 f.2.1 ps + (if a = f.1 ∧ b = f.2.1 then part.length else 0)) ≤ (f.2.2.1 ++ part).length)
      rw [if_pos ⟨m2.symm, m3.symm⟩, List.length_append]
      have := h3 f m1
      have := hbase f q1
      omega
    · rw [q2]
      show pnat a b ps + (if a = a ∧ b = b then part.length else 0) ≤ ([] ++ part).length ∧ (pnat a b ps + (if a = a ∧ b = b then part.length else 0) = 0 ∨ ([] ++ part).length = pnat a b ps + (if a = a ∧ b = b then part.length else 0) ∨ 12 + (pnat a b ps + (if a = a ∧ b = b then part.length else 0)) ≤ ([] ++ part).length)
      have z : pnat a b ps = 0 := by
        have hno := (fnd_none (a := a) (b := b) hS).mp (by rw [q1]; rfl)
        have : ∀ qs : List AV, (∀ p, p ∈ qs → ¬ (p.1 = a ∧ p.2.1 = b)) → pnat a b qs = 0 := by
          intro qs
          induction qs with
          | nil => exact fun _ => rfl
          | cons p qs ih =>
            intro hq
            show (if p.1 = a ∧ p.2.1 = b then _ else 0) + pnat a b qs = 0
            rw [if_neg (hq p List.mem_cons_self), ih (fun p hp => hq p (List.mem_cons_of_mem _ hp))]
        refine this ps (fun p hp c => ?_)
        obtain ⟨_, f, g2, g3, g4⟩ := h2 p hp
        exact hno f g2 ⟨g3.trans c.1, g4.trans c.2⟩
      rw [z, if_pos ⟨rfl, rfl⟩, List.nil_append]
      omega
  · rw [pn]
    rcases app_mem hS hy with ⟨q1, q2⟩ | ⟨f, q1, q2⟩ | ⟨q1, c, q2⟩
    · rw [if_neg (fun z => q2 ⟨z.1.symm, z.2.symm⟩), Nat.add_zero]
      exact h4 y q1
    · obtain ⟨m1, m2, m3⟩ := fnd_mem q1
      rw [q2]
      show f.2.2.2.2 + nI part.length = nI (pnat f.1 f.2.1 ps + (if a = f.1 ∧ b = f.2.1 then part.length else 0))
      rw [if_pos ⟨m2.symm, m3.symm⟩, h4 f m1, nI_add]
    · rw [q2]
      show 0 + nI part.length = nI (pnat a b ps + (if a = a ∧ b = b then part.length else 0))
      have z : pnat a b ps = 0 := by
        have hno := (fnd_none (a := a) (b := b) hS).mp (by rw [q1]; rfl)
        have : ∀ qs : List AV, (∀ p, p ∈ qs → ¬ (p.1 = a ∧ p.2.1 = b)) → pnat a b qs = 0 := by
          intro qs
          induction qs with
          | nil => exact fun _ => rfl
          | cons p qs ih =>
            intro hq
            show (if p.1 = a ∧ p.2.1 = b then _ else 0) + pnat a b qs = 0
            rw [if_neg (hq p List.mem_cons_self), ih (fun p hp => hq p (List.mem_cons_of_mem _ hp))]
        refine this ps (fun p hp c => ?_)
        obtain ⟨_, f, g2, g3, g4⟩ := h2 p hp
        exact hno f g2 ⟨g3.trans c.1, g4.trans c.2⟩
      rw [z, if_pos ⟨rfl, rfl⟩, Nat.zero_add, Int32.zero_add]
