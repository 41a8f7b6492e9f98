/-! what is lost: arrivals as pieces -/
def colr : List AV → List AV
  | [] => []
  | p :: qs => match colr qs with
    | [] => [p]
    | w :: l => if w.1 = p.1 ∧ w.2.1 = p.2.1 then (p.1, p.2.1, w.2.2 + p.2.2) :: l else p :: w :: l
theorem noteA_rev (p : AV) (L : List AV) : (noteA p.1 p.2.1 p.2.2 L.reverse).reverse = (match L with
    | [] => [p]
    | w :: l => if w.1 = p.1 ∧ w.2.1 = p.2.1 then (p.1, p.2.1, w.2.2 + p.2.2) :: l else p :: w :: l) := by
  unfold noteA
  cases L with
  | nil => rfl
  | cons w l =>
    rw [List.reverse_cons, List.getLast?_concat]
    dsimp only
    by_cases c : w.1 = p.1 ∧ w.2.1 = p.2.1
    · rw [if_pos c, if_pos c, List.dropLast_concat, List.reverse_append, List.reverse_reverse]
      rfl
    · rw [if_neg c, if_neg c, List.reverse_append, List.reverse_append, List.reverse_reverse]
      rfl
theorem col_rev : ∀ qs : List AV, (col qs.reverse).reverse = colr qs
  | [] => rfl
  | p :: qs => by
    have ih := col_rev qs
    have e : col qs.reverse = (colr qs).reverse := by rw [← ih, List.reverse_reverse]
    rw [List.reverse_cons, col_snoc, e, noteA_rev]
    rfl
/-- pieces, the last first -/
def PWr (fs : List AF) (qs : List AV) : Prop := (∀ p, p ∈ qs → (p.2.2 = nI p.2.2.toNatClampNeg ∧ 0 < p.2.2.toNatClampNeg) ∧ ∃ f, f ∈ fs ∧ f.1 = p.1 ∧ f.2.1 = p.2.1) ∧ ∀ f, f ∈ fs → pnat f.1 f.2.1 qs ≤ f.2.2.1.length ∧ f.2.2.1.length ≤ 20000
theorem cut_mem {a b : Int32} {d : Nat} {fs : List AF} {y : AF} (h : y ∈ cutF a b d fs) : ∃ x, x ∈ fs ∧ y.1 = x.1 ∧ y.2.1 = x.2.1 ∧ y.2.2.2 = x.2.2.2 ∧ y.2.2.1 = (if x.1 = a ∧ x.2.1 = b then cut1 d x.2.2.1 else x.2.2.1) := by
  obtain ⟨x, hx, e⟩ := List.mem_map.mp h
  refine ⟨x, hx, ?_⟩
  by_cases c : x.1 = a ∧ x.2.1 = b
  · rw [if_pos c] at e
    rw [← e, if_pos c]
    exact ⟨rfl, rfl, rfl, rfl⟩
  · rw [if_neg c] at e
    rw [← e, if_neg c]
    exact ⟨rfl, rfl, rfl, rfl⟩
theorem mem_cut {a b : Int32} {d : Nat} {fs : List AF} {x : AF} (h : x ∈ fs) : ∃ y, y ∈ cutF a b d fs ∧ y.1 = x.1 ∧ y.2.1 = x.2.1 := by
  refine ⟨_, List.mem_map.mpr ⟨x, h, rfl⟩, ?_⟩
  by_cases c : x.1 = a ∧ x.2.1 = b
  · rw [if_pos c]
    exact ⟨rfl, rfl⟩
  · rw [if_neg c]
    exact ⟨rfl, rfl⟩
theorem pw_tail {fs : List AF} {p : AV} {qs : List AV} {d : Nat} (h : PWr fs (p :: qs)) (hd : d ≤ p.2.2.toNatClampNeg) : PWr (cutF p.1 p.2.1 d fs) qs := by
  refine ⟨fun q hq => ?_, fun y hy => ?_⟩
  · obtain ⟨g1, f, g2, g3, g4⟩ := h.1 q (List.mem_cons_of_mem _ hq)
    obtain ⟨y, y1, y2, y3⟩ := mem_cut (a := p.1) (b := p.2.1) (d := d) g2
    exact ⟨g1, y, y1, y2.trans g3, y3.trans g4⟩
  · obtain ⟨x, x1, x2, x3, x4, x5⟩ := cut_mem hy
    have hx := h.2 x x1
    have e : pnat x.1 x.2.1 (p :: qs) = (if p.1 = x.1 ∧ p.2.1 = x.2.1 then p.2.2.toNatClampNeg else 0) + pnat x.1 x.2.1 qs := rfl
    rw [e] at hx
    rw [x2, x3, x5]
    by_cases c : x.1 = p.1 ∧ x.2.1 = p.2.1
    · rw [if_pos c]
      rw [if_pos ⟨c.1.symm, c.2.symm⟩] at hx
      unfold cut1
      split
      · rw [List.length_take]
        omega
      · omega
    · rw [if_neg c]
      rw [if_neg (fun z => c ⟨z.1.symm, z.2.symm⟩)] at hx
      omega
theorem cut_cut {a b : Int32} {d e : Nat} {fs : List AF} (h : ∀ f, f ∈ fs → f.1 = a ∧ f.2.1 = b → d + e ≤ f.2.2.1.length) : cutF a b e (cutF a b d fs) = cutF a b (d + e) fs := by
  unfold cutF
  rw [List.map_map]
  refine List.map_congr_left (fun f hf => ?_)
  show (if (if f.1 = a ∧ f.2.1 = b then (f.1, f.2.1, cut1 d f.2.2.1, f.2.2.2.1, f.2.2.2.2) else f).1 = a ∧ (if f.1 = a ∧ f.2.1 = b then (f.1, f.2.1, cut1 d f.2.2.1, f.2.2.2.1, f.2.2.2.2) else f).2.1 = b then _ else _) = _
  by_cases c : f.1 = a ∧ f.2.1 = b
  · have hl := h f hf c
    simp only [if_pos c]
    have : cut1 e (cut1 d f.2.2.1) = cut1 (d + e) f.2.2.1 := by
      unfold cut1
      rw [if_pos (show d ≤ f.2.2.1.length by omega), if_pos (show d + e ≤ f.2.2.1.length by omega), if_pos (by rw [List.length_take]; omega), List.length_take, List.take_take]
      congr 1
      omega
    rw [this]
  · simp only [if_neg c]
theorem colr_head : ∀ (qs : List AV) (w : AV) (l : List AV), colr qs = w :: l → (∀ p, p ∈ qs → p.2.2 = nI p.2.2.toNatClampNeg) → (∀ a b, pnat a b qs ≤ 20000) → w.2.2.toNatClampNeg ≤ pnat w.1 w.2.1 qs ∧ w.2.2 = nI w.2.2.toNatClampNeg
  | [], w, l, h, _, _ => by cases h
  | p :: qs, w, l, h, hn, hb => by
    have e : ∀ a b, pnat a b (p :: qs) = (if p.1 = a ∧ p.2.1 = b then p.2.2.toNatClampNeg else 0) + pnat a b qs := fun _ _ => rfl
    have hn2 : ∀ q, q ∈ qs → q.2.2 = nI q.2.2.toNatClampNeg := fun q hq => hn q (List.mem_cons_of_mem _ hq)
    have hb2 : ∀ a b, pnat a b qs ≤ 20000 := fun a b => by
      have := hb a b
      rw [e] at this
      omega
    unfold colr at h
    cases hc : colr qs with
    | nil =>
      rw [hc] at h
      cases h
      rw [e, if_pos ⟨rfl, rfl⟩]
      exact ⟨by omega, hn p List.mem_cons_self⟩
    | cons v l2 =>
      rw [hc] at h
      dsimp only at h
      obtain ⟨i1, i2⟩ := colr_head qs v l2 hc hn2 hb2
      by_cases c : v.1 = p.1 ∧ v.2.1 = p.2.1
      · rw [if_pos c] at h
        cases h
        have hp := hn p List.mem_cons_self
        have hbb := hb p.1 p.2.1
        rw [e, if_pos ⟨rfl, rfl⟩] at hbb
        rw [c.1, c.2] at i1
        have ev : v.2.2 + p.2.2 = nI (v.2.2.toNatClampNeg + p.2.2.toNatClampNeg) := by
          rw [← nI_add, ← i2, ← hp]
        have cl : (v.2.2 + p.2.2).toNatClampNeg = v.2.2.toNatClampNeg + p.2.2.toNatClampNeg := by
          rw [ev]
          show (nI _).toInt.toNat = _
          rw [nI_toInt (by omega)]
          rfl
        show (v.2.2 + p.2.2).toNatClampNeg ≤ pnat p.1 p.2.1 (p :: qs) ∧ v.2.2 + p.2.2 = nI (v.2.2 + p.2.2).toNatClampNeg
        rw [e, if_pos ⟨rfl, rfl⟩, cl]
        exact ⟨by omega, ev⟩
      · rw [if_neg c] at h
        cases h
        rw [e, if_pos ⟨rfl, rfl⟩]
        exact ⟨by omega, hn p List.mem_cons_self⟩
theorem pw_bnd {fs : List AF} {qs : List AV} (h : PWr fs qs) : ∀ a b, pnat a b qs ≤ 20000 := by
  intro a b
  by_cases c : ∃ f, f ∈ fs ∧ f.1 = a ∧ f.2.1 = b
  · obtain ⟨f, f1, f2, f3⟩ := c
    have := h.2 f f1
    rw [f2, f3] at this
    omega
  · have : ∀ rs : List AV, (∀ p, p ∈ rs → ¬ (p.1 = a ∧ p.2.1 = b)) → pnat a b rs = 0 := by
      intro rs
      induction rs with
      | nil => exact fun _ => rfl
      | cons p rs ih =>
        intro hq
        show (if p.1 = a ∧ p.2.1 = b then _ else 0) + pnat a b rs = 0
        rw [if_neg (hq p List.mem_cons_self), ih (fun p hp => hq p (List.mem_cons_of_mem _ hp))]
    rw [this qs (fun p hp z => ?_)]
    · omega
    · obtain ⟨_, f, g2, g3, g4⟩ := h.1 p hp
      exact c ⟨f, g2, g3.trans z.1, g4.trans z.2⟩
theorem los_colr : ∀ (qs : List AV) (fs : List AF) (left : Nat), PWr fs qs → losR left (colr qs) fs = losR left qs fs
  | [], _, _, _ => rfl
  | p :: qs, fs, left, h => by
    have step : ∀ (l : List AV) (w : AV), losR left (w :: l) fs = if left = 0 then fs else losR (left - min left w.2.2.toNatClampNeg) l (cutF w.1 w.2.1 (min left w.2.2.toNatClampNeg) fs) := fun _ _ => rfl
    by_cases c0 : left = 0
    · subst c0
      rw [losR_0, losR_0]
    have ih := los_colr qs (cutF p.1 p.2.1 (min left p.2.2.toNatClampNeg) fs) (left - min left p.2.2.toNatClampNeg) (pw_tail h (by omega))
    conv => lhs; unfold colr
    cases hc : colr qs with
    | nil =>
      rw [hc] at ih
      dsimp only
      rw [step, step, if_neg c0, if_neg c0]
      exact ih
    | cons w l =>
      rw [hc] at ih
      dsimp only
      by_cases c : w.1 = p.1 ∧ w.2.1 = p.2.1
      · rw [if_pos c, step, step, if_neg c0, if_neg c0, ← ih]
        have hn : ∀ q, q ∈ qs → q.2.2 = nI q.2.2.toNatClampNeg := fun q hq => (h.1 q (List.mem_cons_of_mem _ hq)).1.1
        have hb := pw_bnd h
        have e : ∀ a b, pnat a b (p :: qs) = (if p.1 = a ∧ p.2.1 = b then p.2.2.toNatClampNeg else 0) + pnat a b qs := fun _ _ => rfl
        have hb2 : ∀ a b, pnat a b qs ≤ 20000 := fun a b => by
          have := hb a b
          rw [e] at this
          omega
        obtain ⟨i1, i2⟩ := colr_head qs w l hc hn hb2
        rw [c.1, c.2] at i1
        have hbb := hb p.1 p.2.1
        rw [e, if_pos ⟨rfl, rfl⟩] at hbb
        have hp := (h.1 p List.mem_cons_self).1.1
        have cl : (w.2.2 + p.2.2).toNatClampNeg = w.2.2.toNatClampNeg + p.2.2.toNatClampNeg := by
          have ev : w.2.2 + p.2.2 = nI (w.2.2.toNatClampNeg + p.2.2.toNatClampNeg) := by rw [← nI_add, ← i2, ← hp]
          rw [ev]
          show (nI _).toInt.toNat = _
          rw [nI_toInt (by omega)]
          rfl
        show losR (left - min left (w.2.2 + p.2.2).toNatClampNeg) l (cutF p.1 p.2.1 (min left (w.2.2 + p.2.2).toNatClampNeg) fs) = if left - min left p.2.2.toNatClampNeg = 0 then cutF p.1 p.2.1 (min left p.2.2.toNatClampNeg) fs else losR (left - min left p.2.2.toNatClampNeg - min (left - min left p.2.2.toNatClampNeg) w.2.2.toNatClampNeg) l (cutF w.1 w.2.1 (min (left - min left p.2.2.toNatClampNeg) w.2.2.toNatClampNeg) (cutF p.1 p.2.1 (min left p.2.2.toNatClampNeg) fs))
        rw [cl, c.1, c.2]
        by_cases c1 : left ≤ p.2.2.toNatClampNeg
        · rw [if_pos (by omega), show min left (w.2.2.toNatClampNeg + p.2.2.toNatClampNeg) = left by omega, show min left p.2.2.toNatClampNeg = left by omega, Nat.sub_self, losR_0]
        · rw [if_neg (by omega), show min left p.2.2.toNatClampNeg = p.2.2.toNatClampNeg by omega, cut_cut (fun f hf z => ?_)]
          · rw [show min left (w.2.2.toNatClampNeg + p.2.2.toNatClampNeg) = p.2.2.toNatClampNeg + min (left - p.2.2.toNatClampNeg) w.2.2.toNatClampNeg by omega, Nat.sub_add_eq]
          · have := (h.2 f hf).1
            rw [z.1, z.2, e, if_pos ⟨rfl, rfl⟩] at this
            omega
      · rw [if_neg c, step, step, if_neg c0, if_neg c0]
        exact ih
theorem loss_ok : ∀ (qs : List AV) (fs : List AF) (left : Nat), PWr fs qs → lossOK left qs fs
  | [], _, _, _ => trivial
  | p :: qs, fs, left, h => by
    refine Or.inr ⟨?_, ?_, loss_ok qs _ _ (pw_tail h (by omega))⟩
    · obtain ⟨_, f, g2, g3, g4⟩ := h.1 p List.mem_cons_self
      refine ⟨f, g2, decide_eq_true ⟨g3, g4⟩, ?_⟩
      have := (h.2 f g2).1
      have e : pnat f.1 f.2.1 (p :: qs) = (if p.1 = f.1 ∧ p.2.1 = f.2.1 then p.2.2.toNatClampNeg else 0) + pnat f.1 f.2.1 qs := rfl
      rw [e, if_pos ⟨g3.symm, g4.symm⟩] at this
      omega
    · have := (h.1 p List.mem_cons_self).1
      refine ⟨this.2, ?_⟩
      rw [this.1]
      have hb := pw_bnd h p.1 p.2.1
      have e : pnat p.1 p.2.1 (p :: qs) = (if p.1 = p.1 ∧ p.2.1 = p.2.1 then p.2.2.toNatClampNeg else 0) + pnat p.1 p.2.1 qs := rfl
      rw [e, if_pos ⟨rfl, rfl⟩] at hb
      exact nI_pos (by omega)
theorem los_all : ∀ (qs : List AV) (fs : List AF) (left : Nat), SrtF fs → SrtF (losR left qs fs) ∧ (losR left qs fs).length = fs.length ∧ totF (losR left qs fs) ≤ totF fs ∧ ∀ y, y ∈ losR left qs fs → ∃ x, x ∈ fs ∧ y.1 = x.1 ∧ y.2.1 = x.2.1
  | [], fs, left, hS => ⟨hS, rfl, Nat.le_refl _, fun y hy => ⟨y, hy, rfl, rfl⟩⟩
  | w :: l, fs, left, hS => by
    have step : losR left (w :: l) fs = if left = 0 then fs else losR (left - min left w.2.2.toNatClampNeg) l (cutF w.1 w.2.1 (min left w.2.2.toNatClampNeg) fs) := rfl
    rw [step]
    by_cases c0 : left = 0
    · rw [if_pos c0]
      exact ⟨hS, rfl, Nat.le_refl _, fun y hy => ⟨y, hy, rfl, rfl⟩⟩
    · rw [if_neg c0]
      obtain ⟨h1, h2, h3, h4⟩ := los_all l (cutF w.1 w.2.1 (min left w.2.2.toNatClampNeg) fs) (left - min left w.2.2.toNatClampNeg) (srt_cut hS)
      have hl : (cutF w.1 w.2.1 (min left w.2.2.toNatClampNeg) fs).length = fs.length := List.length_map ..
      have ht : ∀ (gs : List AF) (d : Nat), totF (cutF w.1 w.2.1 d gs) ≤ totF gs := by
        intro gs d
        induction gs with
        | nil => exact Nat.le_refl _
        | cons f gs ih =>
          show (if f.1 = w.1 ∧ f.2.1 = w.2.1 then (f.1, f.2.1, cut1 d f.2.2.1, f.2.2.2.1, f.2.2.2.2) else f).2.2.1.length + totF (cutF w.1 w.2.1 d gs) ≤ f.2.2.1.length + totF gs
          by_cases c : f.1 = w.1 ∧ f.2.1 = w.2.1
          · rw [if_pos c]
            show (cut1 d f.2.2.1).length + _ ≤ _
            unfold cut1
            split
            · rw [List.length_take]
              omega
            · omega
          · rw [if_neg c]
            omega
      refine ⟨h1, h2.trans hl, Nat.le_trans h3 (ht _ _), fun y hy => ?_⟩
      obtain ⟨x, x1, x2, x3⟩ := h4 y hy
      obtain ⟨z, z1, z2, z3, _⟩ := cut_mem x1
      exact ⟨z, z1, x2.trans z2, x3.trans z3⟩
theorem totF_sub : ∀ {a b : List AF}, a.Sublist b → totF a ≤ totF b
  | _, _, .slnil => Nat.le_refl _
  | _, _, .cons x h => by
    have := totF_sub h
    show _ ≤ x.2.2.1.length + totF _
    omega
  | _, _, .cons₂ x h => by
    have := totF_sub h
    show x.2.2.1.length + totF _ ≤ x.2.2.1.length + totF _
    omega
theorem pcs_pwr {fs : List AF} {ps : List AV} (h : Pcs fs ps) (hT : totF fs ≤ 16384) : PWr fs ps.reverse := by
  have hr : ∀ a b (qs : List AV), pnat a b qs.reverse = pnat a b qs := by
    intro a b qs
    induction qs with
    | nil => rfl
    | cons p qs ih =>
      rw [List.reverse_cons, pnat_app, ih]
      show _ + ((if p.1 = a ∧ p.2.1 = b then p.2.2.toNatClampNeg else 0) + 0) = (if p.1 = a ∧ p.2.1 = b then p.2.2.toNatClampNeg else 0) + pnat a b qs
      omega
  refine ⟨fun p hp => ?_, fun f hf => ?_⟩
  · obtain ⟨g1, g2⟩ := h.1 p (List.mem_reverse.mp hp)
    exact ⟨⟨g1.1, by omega⟩, g2⟩
  · rw [hr]
    have := mem_tot hf
    exact ⟨(h.2 f hf).1, by omega⟩
/-- small, but not gone -/
def scn1 (fs : List AF) : Nat := (fs.filter (fun f => decide (f.2.2.1.length < 12 ∧ 1 ≤ f.2.2.1.length))).length
theorem scn1_cons (f : AF) (fs : List AF) : scn1 (f :: fs) = (if f.2.2.1.length < 12 ∧ 1 ≤ f.2.2.1.length then 1 else 0) + scn1 fs := by
  unfold scn1
  rw [List.filter_cons]
  by_cases c : f.2.2.1.length < 12 ∧ 1 ≤ f.2.2.1.length
  · rw [if_pos (decide_eq_true c), if_pos c, List.length_cons]
    omega
  · rw [if_neg (fun q => c (of_decide_eq_true q)), if_neg c]
    omega
theorem cut_cons (a b : Int32) (d : Nat) (f : AF) (fs : List AF) : cutF a b d (f :: fs) = (if f.1 = a ∧ f.2.1 = b then (f.1, f.2.1, cut1 d f.2.2.1, f.2.2.2.1, f.2.2.2.2) else f) :: cutF a b d fs := rfl
theorem cut_none {a b : Int32} {d : Nat} : ∀ {fs : List AF}, (∀ f, f ∈ fs → ¬ (f.1 = a ∧ f.2.1 = b)) → cutF a b d fs = fs
  | [], _ => rfl
  | f :: fs, h => by
    rw [cut_cons, if_neg (h f List.mem_cons_self), cut_none (fun x hx => h x (List.mem_cons_of_mem _ hx))]
/-- one file is cut: one more is small at most, none if what is left of it is not -/
theorem scn1_cut {a b : Int32} {d : Nat} : ∀ {fs : List AF}, SrtF fs → scn1 (cutF a b d fs) ≤ scn1 fs + 1 ∧ ((∀ f, f ∈ fs → f.1 = a ∧ f.2.1 = b → ¬ ((cut1 d f.2.2.1).length < 12 ∧ 1 ≤ (cut1 d f.2.2.1).length)) → scn1 (cutF a b d fs) ≤ scn1 fs)
  | [], _ => ⟨Nat.zero_le _, fun _ => Nat.le_refl _⟩
  | f :: fs, hS => by
    have hp := List.pairwise_cons.mp hS
    rw [cut_cons, scn1_cons, scn1_cons]
    by_cases c : f.1 = a ∧ f.2.1 = b
    · have hno : ∀ x, x ∈ fs → ¬ (x.1 = a ∧ x.2.1 = b) := by
        intro x hx q
        rcases hp.1 x hx with z | z
        · rw [c.1, q.1] at z
          exact absurd z Int32.lt_irrefl
        · rw [c.2, q.2] at z
          exact absurd z.2 Int32.lt_irrefl
      rw [if_pos c, cut_none hno]
      constructor
      · split <;> split <;> omega
      · intro h
        have := h f List.mem_cons_self c
        rw [if_neg this]
        omega
    · rw [if_neg c]
      obtain ⟨h1, h2⟩ := scn1_cut (a := a) (b := b) (d := d) hp.2
      refine ⟨by omega, fun h => ?_⟩
      have := h2 (fun x hx => h x (List.mem_cons_of_mem _ hx))
      omega
theorem los_small : ∀ (qs : List AV) (fs : List AF) (left : Nat), SrtF fs → PWr fs qs → (∀ p, p ∈ qs → 12 ≤ p.2.2.toNatClampNeg) → (∀ f, f ∈ fs → pnat f.1 f.2.1 qs = 0 ∨ f.2.2.1.length = pnat f.1 f.2.1 qs ∨ 12 + pnat f.1 f.2.1 qs ≤ f.2.2.1.length) → scn1 (losR left qs fs) ≤ scn1 fs + 1
  | [], fs, left, _, _, _, _ => Nat.le_succ _
  | p :: qs, fs, left, hS, h, h12, hg => by
    have step : losR left (p :: qs) fs = if left = 0 then fs else losR (left - min left p.2.2.toNatClampNeg) qs (cutF p.1 p.2.1 (min left p.2.2.toNatClampNeg) fs) := rfl
    rw [step]
    have e : ∀ a b, pnat a b (p :: qs) = (if p.1 = a ∧ p.2.1 = b then p.2.2.toNatClampNeg else 0) + pnat a b qs := fun _ _ => rfl
    have hp12 := h12 p List.mem_cons_self
    by_cases c0 : left = 0
    · rw [if_pos c0]
      omega
    · rw [if_neg c0]
      by_cases c1 : left ≤ p.2.2.toNatClampNeg
      · rw [show min left p.2.2.toNatClampNeg = left by omega, Nat.sub_self, losR_0]
        exact (scn1_cut hS).1
      · rw [show min left p.2.2.toNatClampNeg = p.2.2.toNatClampNeg by omega]
        have pz : ∀ a b, pnat a b qs = 0 ∨ 12 ≤ pnat a b qs := by
          intro a b
          have : ∀ rs : List AV, (∀ q, q ∈ rs → 12 ≤ q.2.2.toNatClampNeg) → pnat a b rs = 0 ∨ 12 ≤ pnat a b rs := by
            intro rs
            induction rs with
            | nil => exact fun _ => Or.inl rfl
            | cons q rs ih =>
              intro hq
              have h1 := hq q List.mem_cons_self
              have h2 := ih (fun q hq2 => hq q (List.mem_cons_of_mem _ hq2))
              show (if q.1 = a ∧ q.2.1 = b then q.2.2.toNatClampNeg else 0) + pnat a b rs = 0 ∨ 12 ≤ (if q.1 = a ∧ q.2.1 = b then q.2.2.toNatClampNeg else 0) + pnat a b rs
              split <;> omega
          exact this qs (fun q hq => h12 q (List.mem_cons_of_mem _ hq))
        have hlen : ∀ f, f ∈ fs → f.1 = p.1 ∧ f.2.1 = p.2.1 → (cut1 p.2.2.toNatClampNeg f.2.2.1).length = f.2.2.1.length - p.2.2.toNatClampNeg ∧ (f.2.2.1.length - p.2.2.toNatClampNeg = pnat f.1 f.2.1 qs ∨ 12 + pnat f.1 f.2.1 qs ≤ f.2.2.1.length - p.2.2.toNatClampNeg) := by
          intro f hf z
          have h1 := (h.2 f hf).1
          have h2 := hg f hf
          rw [e, if_pos ⟨z.1.symm, z.2.symm⟩] at h1 h2
          refine ⟨?_, by omega⟩
          unfold cut1
          rw [if_pos (by omega), List.length_take]
          omega
        have hs : scn1 (cutF p.1 p.2.1 p.2.2.toNatClampNeg fs) ≤ scn1 fs := (scn1_cut hS).2 (fun f hf z q => by
          obtain ⟨z1, z2⟩ := hlen f hf z
          have := pz f.1 f.2.1
          omega)
        have := los_small qs (cutF p.1 p.2.1 p.2.2.toNatClampNeg fs) (left - p.2.2.toNatClampNeg) (srt_cut hS) (pw_tail h (Nat.le_refl _)) (fun q hq => h12 q (List.mem_cons_of_mem _ hq)) (fun y hy => ?_)
        · omega
        · obtain ⟨x, x1, x2, x3, x4, x5⟩ := cut_mem hy
          rw [x2, x3, x5]
          by_cases z : x.1 = p.1 ∧ x.2.1 = p.2.1
          · rw [if_pos z]
            obtain ⟨z1, z2⟩ := hlen x x1 z
            omega
          · rw [if_neg z]
            have := hg x x1
            rw [e, if_neg (fun q => z ⟨q.1.symm, q.2.symm⟩)] at this
            omega
theorem scn1_fil : ∀ fs : List AF, scnt (fs.filter neF) = scn1 fs
  | [] => rfl
  | f :: fs => by
    have ih := scn1_fil fs
    rw [List.filter_cons, scn1_cons]
    by_cases c : f.2.2.1.length = 0
    · rw [if_neg (show ¬ neF f = true from fun q => (of_decide_eq_true q) c), if_neg (by omega), ih]
      omega
    · rw [if_pos (show neF f = true from decide_eq_true c), scnt_cons, ih]
      split <;> split <;> omega
theorem scn1_le : ∀ fs : List AF, scn1 fs ≤ scnt fs
  | [] => Nat.le_refl _
  | f :: fs => by
    have ih := scn1_le fs
    rw [scn1_cons, scnt_cons]
    split <;> split <;> omega
