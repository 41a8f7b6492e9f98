/-! room: merges, one behind the other, with nothing between -/
def gg (l : List Nat) (p : Nat) : Nat := l.getD p 0
/-- which rows are long enough, after j merges -/
def Sj (j : Nat) (σ : List Nat) (μ : Nat) (f : List Nat) (x : Nat → Nat) : Prop :=
  (1 ≤ j → ∀ p, p < σ.length → gg σ p ≤ gg f p) ∧
  (2 ≤ j → μ ≤ x 0 ∧ ∀ p, 1 ≤ p → p ≤ σ.length → gg σ (σ.length - p) ≤ x p) ∧
  (3 ≤ j → (∀ p, 1 ≤ p → p < σ.length → gg σ (σ.length - p) ≤ gg f p) ∧ (0 < σ.length → μ ≤ gg f 0 ∧ gg σ 0 ≤ x 0)) ∧
  (4 ≤ j → (∀ p, p < σ.length → gg σ p ≤ x p) ∧ μ ≤ x σ.length)
theorem Sj_next {j : Nat} {σ f f' : List Nat} {μ m' : Nat} {x x' : Nat → Nat} (h : Sj j σ μ f x) (h1 : ∀ p, p < σ.length → x p ≤ gg f' p ∧ gg σ p ≤ gg f' p) (h2 : x σ.length ≤ m' ∧ μ ≤ m') (h3 : 1 ≤ j → x' 0 = m' ∧ ∀ p, 1 ≤ p → p ≤ σ.length → x' p = gg f (σ.length - p)) : Sj (min (j + 1) 4) σ μ f' x' := by
  obtain ⟨s1, s2, s3, s4⟩ := h
  refine ⟨fun _ p hp => (h1 p hp).2, fun hj => ?_, fun hj => ?_, fun hj => ?_⟩
  · obtain ⟨e1, e2⟩ := h3 (by omega)
    refine ⟨by rw [e1]; exact h2.2, fun p p1 p2 => ?_⟩
    rw [e2 p p1 p2]
    exact s1 (by omega) _ (by omega)
  · obtain ⟨e1, e2⟩ := h3 (by omega)
    obtain ⟨t1, t2⟩ := s2 (by omega)
    refine ⟨fun p p1 p2 => Nat.le_trans (t2 p p1 (by omega)) (h1 p p2).1, fun hn => ⟨Nat.le_trans t1 (h1 0 hn).1, ?_⟩⟩
    rw [e1]
    have := t2 σ.length hn (Nat.le_refl _)
    rw [Nat.sub_self] at this
    omega
  · obtain ⟨e1, e2⟩ := h3 (by omega)
    obtain ⟨t1, t2⟩ := s2 (by omega)
    obtain ⟨u1, u2⟩ := s3 (by omega)
    constructor
    · intro p hp
      rcases Nat.eq_zero_or_pos p with c | c
      · subst c
        rw [e1]
        have := t2 σ.length hp (Nat.le_refl _)
        rw [Nat.sub_self] at this
        omega
      · rw [e2 p c (by omega)]
        have := u1 (σ.length - p) (by omega) (by omega)
        rw [show σ.length - (σ.length - p) = p by omega] at this
        exact this
    · rcases Nat.eq_zero_or_pos σ.length with c | c
      · rw [c, e1]
        exact h2.2
      · rw [e2 σ.length c (Nat.le_refl _), Nat.sub_self]
        exact (u2 c).1
def cpL (l : List Sh) : List Nat := l.map (fun s => s.2.2.2)
theorem cpL_app (a b : List Sh) : cpL (a ++ b) = cpL a ++ cpL b := List.map_append
def mrN (σ : List Nat) : Nat := 8 + 2 * σ.length
theorem cap_facts {x0 : Nat → Nat} {σ : List Nat} {μ : Nat} {psL : List Sh} {m : Sh} (h : capOK x0 (σ ++ [μ]) (psL ++ [m])) (hl : lens psL = σ) (hm : m.2.2.1 = μ) : (∀ p, p < σ.length → x0 p ≤ gg (cpL psL) p ∧ gg σ p ≤ gg (cpL psL) p) ∧ (x0 σ.length ≤ m.2.2.2 ∧ μ ≤ m.2.2.2) := by
  have hll : psL.length = σ.length := by
    rw [← hl]
    exact (List.length_map _).symm
  constructor
  · intro p hp
    obtain ⟨s, hs⟩ := some_of_lt (show p < psL.length by omega)
    obtain ⟨h1, h2, _⟩ := h p s (by rw [List.getElem?_append_left (by omega)]; exact hs)
    have e1 : gg (cpL psL) p = s.2.2.2 := by
      unfold gg cpL
      rw [List.getD_eq_getElem?_getD, List.getElem?_map, hs]
      rfl
    have e2 : gg σ p = s.2.2.1 := by
      rw [← hl]
      unfold gg lens
      rw [List.getD_eq_getElem?_getD, List.getElem?_map, hs]
      rfl
    rw [e1, e2]
    exact ⟨h1, h2⟩
  · obtain ⟨h1, h2, _⟩ := h psL.length m (by rw [List.getElem?_append_right (Nat.le_refl _), Nat.sub_self]; rfl)
    rw [hll] at h1
    rw [hm] at h2
    exact ⟨h1, h2⟩
/-- j merges are done, the next one is copying -/
def MA (j : Nat) (sz : List (Nat × Nat)) (V : VC) : Prop := ∃ fs0 x0 cop rem gd cd, PhA V fs0 x0 sz cop rem gd cd ∧ (1 ≤ j → ∃ jk ps0, fs0 = jk ++ ps0 ∧ (∀ x, x ∈ jk → ¬ x.2.1 = 0) ∧ Prs ps0 ∧ lens ps0 = cn0 (fmV V) sz ∧ Sj j (cn0 (fmV V) sz) (mrN (cn0 (fmV V) sz)) (cpL ps0) x0)
/-- .. is removing -/
def MC (j : Nat) (sz : List (Nat × Nat)) (V : VC) : Prop := ∃ A psL m cop x0 μ, PhC V A psL m sz cop ∧ capOK x0 (cn0 (fmV V) sz ++ [μ]) (psL ++ [m]) ∧ m.2.2.1 = μ ∧ (1 ≤ j → ∃ jk rest sv1 done f, A = jk ++ rest ∧ (∀ x, x ∈ jk → ¬ x.2.1 = 0) ∧ Prs rest ∧ V.1.2.1 = sv1 ++ done ∧ done ++ cpL rest = f ∧ f.length = (cn0 (fmV V) sz).length ∧ μ = mrN (cn0 (fmV V) sz) ∧ Sj j (cn0 (fmV V) sz) (mrN (cn0 (fmV V) sz)) f x0)
/-- .. has ended -/
def MR (j : Nat) (sz : List (Nat × Nat)) (V : VC) : Prop := ∃ A psL cop, RRs V A psL sz cop ∧ Sj j (cn0 (fmV V) sz) (mrN (cn0 (fmV V) sz)) (cpL psL) (stk V.1.2.1)
theorem prs_len : ∀ {l : List Sh}, Prs l → ∃ K, l.length = 2 * K ∧ (l.filter (fun s => decide (s.2.1 = 0))).length = K
  | [], _ => ⟨0, rfl, rfl⟩
  | [_], h => absurd h id
  | x :: y :: l, h => by
    obtain ⟨K, h1, h2⟩ := prs_len (l := l) h.2
    refine ⟨K + 1, by rw [List.length_cons, List.length_cons, h1]; omega, ?_⟩
    rw [List.filter_cons, if_pos (by simpa using h.1.2.1), List.filter_cons, if_neg (by rw [h.1.2.2]; decide), List.length_cons, h2]
theorem sh_data (fs : List AF) : (dNum fs).length = ((shF fs).filter (fun s => decide (s.2.1 = 0))).length := by
  unfold dNum shF
  rw [List.length_map, List.filter_map, List.length_map]
  rfl
theorem sh_inp {li : Int32} {fs : List AF} : (inpL li fs).length = ((shF fs).filter (fun s => decide (s.2.1 = 0 ∧ s.1 < li))).length := by
  unfold inpL dNum shF
  rw [List.length_map, List.filter_filter, List.filter_map, List.length_map]
  congr 1
  refine List.filter_congr (fun f _ => ?_)
  show (decide (f.2.1 = 0) && decide (f.1 < li)) = decide (f.2.1 = 0 ∧ f.1 < li)
  rw [Bool.decide_and]
section
variable {t t' : Nat} {V : VC} {S S' : MS} {ps ps' : List AV} {C C' : Int} {sz : List (Nat × Nat)} {j : Nat}
theorem fm_rn (V : VC) : fmV (rnV V) = fmV V := by
  have one : ∀ (a b : Int32) (D : VD), (vDis a b D).2.2 = D.2.2 := fun a b D => (vDis_files a b D).2
  unfold rnV
  split
  · show ((vDis _ _ V.1).2.2.2.2.1).toNatClampNeg = _
    rw [one]
    rfl
  · split
    · show ((vDis _ _ (vDis _ _ V.1)).2.2.2.2.1).toNatClampNeg = _
      rw [one, one]
      rfl
    · show ((vDis _ _ V.1).2.2.2.2.1).toNatClampNeg = _
      rw [one]
      rfl
theorem fm_wh (V : VC) : fmV (whV V).1 = fmV V := by
  unfold whV
  split <;> rfl
theorem fm_du {V : VC} : fmV (duV V).1 = fmV V := by
  unfold duV
  split
  · split
    · exact fm_wh V
    · rename_i jr _
      unfold cpV
      split
      · rfl
      · have n := nh_disk (jr.2.1, (cpA jr.2 V).1.2.2.1.2.2.1, cpP jr.2 V, jr.2.2.2.2.1, jr.2.2.2.2.2) (sRr (telR jr.1 (cpA jr.2 V).1.2.2.1.2.2.1 (cpP jr.2 V) jr.2.2.2.2.1 jr.2.2.2.2.2 V.2.1) (cpB jr.2 ‹AF› (cpA jr.2 V).1))
        have q := congrArg (fun D : VD => D.2.2.2.2.1.toNatClampNeg) n.1
        refine Eq.trans q ?_
        show fmV (cpA jr.2 V).1 = _
        unfold cpA
        split
        · exact fm_wh V
        · rfl
  · exact fm_rn V
theorem inp_pre {fs0 gs : List Sh} {li : Int32} {fs : List AF} (h : shF fs = fs0 ++ gs) (h1 : ∀ x, x ∈ fs0 → x.1 < li) (h2 : ∀ x, x ∈ gs → ¬ x.1 < li) : (inpL li fs).length = (fs0.filter (fun s => decide (s.2.1 = 0))).length := by
  rw [sh_inp, h, List.filter_append, List.length_append]
  have e1 : gs.filter (fun s => decide (s.2.1 = 0 ∧ s.1 < li)) = [] := List.filter_eq_nil_iff.mpr (fun x hx q => h2 x hx (of_decide_eq_true q).2)
  have e2 : fs0.filter (fun s => decide (s.2.1 = 0 ∧ s.1 < li)) = fs0.filter (fun s => decide (s.2.1 = 0)) := by
    refine List.filter_congr (fun x hx => ?_)
    rw [decide_eq_decide]
    exact ⟨fun q => q.1, fun q => ⟨q, h1 x hx⟩⟩
  rw [e1, e2]
  rfl
theorem filt_jk {jk ps0 : List Sh} (h : ∀ x, x ∈ jk → ¬ x.2.1 = 0) : (jk ++ ps0).filter (fun s => decide (s.2.1 = 0)) = ps0.filter (fun s => decide (s.2.1 = 0)) := by
  rw [List.filter_append, List.filter_eq_nil_iff.mpr (fun x hx q => h x hx (of_decide_eq_true q)), List.nil_append]
theorem first_data : ∀ {A : List Sh}, (∃ x, x ∈ A ∧ x.2.1 = 0) → ∃ a1 d a2, A = a1 ++ d :: a2 ∧ (∀ x, x ∈ a1 → ¬ x.2.1 = 0) ∧ d.2.1 = 0
  | [], h => by
    obtain ⟨x, hx, _⟩ := h
    cases hx
  | a :: A, h => by
    by_cases c : a.2.1 = 0
    · exact ⟨[], a, A, rfl, fun x hx => (by cases hx), c⟩
    · obtain ⟨x, hx, h0⟩ := h
      rcases List.mem_cons.mp hx with z | z
      · rw [z] at h0
        exact absurd h0 c
      · obtain ⟨a1, d, a2, e1, e2, e3⟩ := first_data (A := A) ⟨x, z, h0⟩
        refine ⟨a :: a1, d, a2, by rw [e1]; rfl, fun y hy => ?_, e3⟩
        rcases List.mem_cons.mp hy with w | w
        · rw [w]
          exact c
        · exact e2 y w
theorem stk_app {sv f : List Nat} {p : Nat} (hp : p < f.length) : stk (sv ++ f) p = gg f (f.length - 1 - p) := by
  unfold stk gg
  rw [List.reverse_append, List.getElem?_append_left (by rw [List.length_reverse]; exact hp), List.getElem?_reverse hp, List.getD_eq_getElem?_getD]
  have : f.length - 1 - p < f.length := by omega
  rw [List.getElem?_eq_getElem this]
  rfl
/-- one unit of such a merge -/
theorem run_unit (hm : MA j sz V ∨ MC j sz V) (h : RelB t C V S ps) (hg : UG V) : ((MA j sz (duV V).1 ∨ MC j sz (duV V).1) ∨ MR (min (j + 1) 4) sz (duV V).1) ∧ (4 ≤ j → (duV V).2 = 0) := by
  have hF := fm_du (V := V)
  rcases hm with ⟨fs0, x0, cop, rem, gd, cd, hA, hS⟩ | ⟨A, psL, m, cop, x0, μ, hc, hcap, hμ, hS⟩
  · have fit : 4 ≤ j → (∀ p, p < (cn0 (fmV V) sz).length → (cn0 (fmV V) sz).getD p 0 ≤ x0 p) ∧ mrN (cn0 (fmV V) sz) ≤ x0 (cn0 (fmV V) sz).length := by
      intro h4
      obtain ⟨jk, ps0, _, _, _, _, hs⟩ := hS (by omega)
      exact hs.2.2.2 h4
    cases rem with
    | cons r rem =>
      obtain ⟨r', gd', cd', h1, h2⟩ := phA_copy hA h hg
      refine ⟨Or.inl (Or.inl ⟨fs0, x0, cop ++ [r'], rem, gd', cd', h1, ?_⟩), fun h4 => h2 (fit h4).1⟩
      rw [hF]
      exact hS
    | nil =>
      obtain ⟨psL, m, ⟨h1, h11⟩, h2, h3, h4⟩ := phA_fin hA h
      have hi := inp_pre hA.sh hA.lo hA.hi
      have hμ : 1 ≤ j → mkn V = mrN (cn0 (fmV V) sz) := by
        intro hj
        obtain ⟨jk, ps0, e1, e2, e3, e4, _⟩ := hS hj
        obtain ⟨K, k1, k2⟩ := prs_len e3
        have k3 : (cn0 (fmV V) sz).length = ps0.length := by
          rw [← e4]
          exact List.length_map _
        unfold mkn mrN
        rw [hi, e1, filt_jk e2, k2, k3, k1]
        omega
      refine ⟨Or.inl (Or.inr ⟨fs0, psL, m, cop, x0, mkn V, h1, by rw [hF]; exact h3, h11, fun hj => ?_⟩), fun h5 => h4 (fit h5).1 (by rw [hμ (by omega)]; exact (fit h5).2)⟩
      · obtain ⟨jk, ps0, e1, e2, e3, e4, e5⟩ := hS hj
        rw [hF]
        refine ⟨jk, ps0, (duV V).1.1.2.1, [], cpL ps0, e1, e2, e3, by rw [List.append_nil], rfl, ?_, hμ hj, e5⟩
        rw [← e4]
        unfold cpL lens
        rw [List.length_map, List.length_map]
  · have hll : lens psL = cn0 (fmV V) sz := hc.2.2.2.2.1.2
    rcases Nat.eq_zero_or_pos j with hj | hj
    · subst hj
      by_cases hd : ∃ x, x ∈ A ∧ x.2.1 = 0
      · obtain ⟨a1, d, a2, e1, e2, e3⟩ := first_data hd
        obtain ⟨q1, q2⟩ := phC_rem hc h e1 e2 e3
        refine ⟨Or.inl (Or.inr ?_), fun _ => q1⟩
        rcases q2 with ⟨e, a3, _, q3, _⟩ | ⟨_, q3⟩
        · exact ⟨a1 ++ a3, psL, m, cop, x0, μ, q3, by rw [hF]; exact hcap, hμ, fun z => absurd z (by decide)⟩
        · exact ⟨a1 ++ a2, psL, m, cop, x0, μ, q3, by rw [hF]; exact hcap, hμ, fun z => absurd z (by decide)⟩
      · have hA : ∀ x, x ∈ A → ¬ x.2.1 = 0 := fun x hx q => hd ⟨x, hx, q⟩
        obtain ⟨q1, q2, q3⟩ := phC_end hc h hA
        refine ⟨Or.inr ⟨A, psL, cop, q1, ?_⟩, fun _ => q3⟩
        rw [hF]
        obtain ⟨k1, _⟩ := cap_facts hcap hll hμ
        exact ⟨fun _ p hp => (k1 p hp).2, fun z => absurd z (by decide), fun z => absurd z (by decide), fun z => absurd z (by decide)⟩
    · obtain ⟨jk, rest, sv1, done, f, g1, g2, g3, g4, g5, g6, g7, g8⟩ := hS hj
      match rest, g1, g3, g5 with
      | [], g1, g3, g5 =>
        have hA : ∀ x, x ∈ A → ¬ x.2.1 = 0 := by
          rw [g1, List.append_nil]
          exact g2
        obtain ⟨q1, q2, q3⟩ := phC_end hc h hA
        refine ⟨Or.inr ⟨A, psL, cop, q1, ?_⟩, fun _ => q3⟩
        rw [hF]
        obtain ⟨k1, k2⟩ := cap_facts hcap hll hμ
        rw [g7] at k2
        have g5 : done = f := by
          rw [← g5]
          exact (List.append_nil _).symm
        refine Sj_next g8 k1 k2 (fun _ => ?_)
        rw [q2, g4, g5]
        refine ⟨stk_push0 _ _, fun p p1 p2 => ?_⟩
        obtain ⟨p, rfl⟩ : ∃ q, p = q + 1 := ⟨p - 1, by omega⟩
        rw [stk_push, stk_app (by omega), g6]
        congr 1
        omega
      | [_], g1, g3, g5 => exact absurd g3 id
      | x :: y :: l, g1, g3, g5 =>
        obtain ⟨q1, q2⟩ := phC_rem hc h g1 g2 g3.1.2.1
        refine ⟨Or.inl (Or.inr ?_), fun _ => q1⟩
        rcases q2 with ⟨e, a3, q4, q3, q5⟩ | ⟨q4, _⟩
        · cases q4
          refine ⟨jk ++ l, psL, m, cop, x0, μ, q3, by rw [hF]; exact hcap, hμ, fun _ => ?_⟩
          rw [hF]
          refine ⟨jk, l, sv1, done ++ [x.2.2.2] ++ [y.2.2.2], f, rfl, g2, g3.2, ?_, ?_, g6, g7, g8⟩
          · rw [q5, g4]
            simp only [List.append_assoc]
          · rw [← g5]
            simp only [List.append_assoc]
            rfl
        · exact absurd ⟨g3.1.1.symm, g3.1.2.2⟩ (q4 y l rfl)
end
/-- some units of such a merge -/
theorem run_it {V : VC} {j : Nat} {sz : List (Nat × Nat)} (hm : MA j sz V ∨ MC j sz V) (h : RU V) : ∀ k, k ≤ uN V → ((MA j sz (itU k V).1 ∨ MC j sz (itU k V).1) ∨ MR (min (j + 1) 4) sz (itU k V).1) ∧ (4 ≤ j → (itU k V).2 = 0)
  | 0, _ => ⟨Or.inl hm, fun _ => rfl⟩
  | k + 1, hk => by
    obtain ⟨ih1, ih2⟩ := run_it hm h k (by omega)
    obtain ⟨⟨t, C, S, ps, _, h1⟩, h2, h3⟩ := h k (by omega)
    rw [itU_succ, itU_two]
    rcases ih1 with z | ⟨A, psL, cop, z, _⟩
    · obtain ⟨r1, r2⟩ := run_unit z h1 (h3 (by omega))
      refine ⟨r1, fun h4 => ?_⟩
      have := ih2 h4
      have := r2 h4
      omega
    · exfalso
      have := uN_under h1 (by omega)
      rw [z.2.1] at this
      exact absurd this (by decide)
