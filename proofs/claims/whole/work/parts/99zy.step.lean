/-! room: from call to call -/
def tw (V : VC) : Nat := if tpV V = [] then 0 else 13200
def pw (V : VC) : Nat := if V.2.2.1.1 = 1 ∧ V.2.2.1.2.2.1 = -1 ∧ V.2.2.1.2.2.2.1 = -1 then 13200 else 0
theorem tw_le (V : VC) : tw V ≤ 13200 := by
  unfold tw
  split <;> omega
theorem pw_le (V : VC) : pw V ≤ 13200 := by
  unfold pw
  split <;> omega
/-- j times G -/
def jG (j G : Nat) : Nat := j * G
theorem jG_c (G : Nat) : jG 1 G = G ∧ jG 2 G = 2 * G ∧ jG 3 G = 3 * G ∧ jG 4 G = 4 * G := ⟨Nat.one_mul G, rfl, rfl, rfl⟩
def Mg (j : Nat) (sz : List (Nat × Nat)) (V : VC) : Prop := MA j sz V ∨ MC j sz V
/-- t calls, Z slots -/
def InC (t Z : Nat) (V : VC) : Prop := V.2.2.2.2.1.1 = 0 ∧ Z + tw V + 13200 ≤ 13200 * t
def InE (t Z : Nat) (V : VC) : Prop := V.2.2.1.1 = 0 ∧ shF V.1.1 = [] ∧ Z + Lam V + tw V ≤ 13200 * t
def InB (t Z : Nat) (V : VC) : Prop := V.2.2.1.1 = 0 ∧ Z + Lam V + tw V + 26024 ≤ 13200 * t
def InU (t Z : Nat) (V : VC) : Prop := V.2.2.1.1 = 1 ∧ Z + Lam V + Gr V + tw V + 26024 ≤ 13200 * t + pw V
def InP (t Z : Nat) (V : VC) : Prop := V.2.2.1.1 = 1 ∧ ∃ j sz mk1, j ≤ 3 ∧ Mg j sz V ∧ Num (fmV V) sz mk1 ∧ Z + Lam V + Gr V + tw V + 26024 + jG (j + 1) 26400 ≤ 13200 * t + pw V + jG (j + 1) (Gs (fmV V) sz) + 2 * mk1 ∧ Z + Lam V + Gr V + tw V + 415 ≤ 13200 * t + pw V ∧ Z + Lam V + tw V ≤ 13200 * t
def InF (t Z : Nat) (V : VC) : Prop := V.2.2.1.1 = 1 ∧ ∃ sz mk1, Mg 4 sz V ∧ Num (fmV V) sz mk1 ∧ 2 * (cn0 (fmV V) sz).sum + mrN (cn0 (fmV V) sz) ≤ 16384 ∧ Z + tw V + 158024 ≤ 13200 * t + pw V + 4 * Gs (fmV V) sz + 2 * mk1 ∧ Lam V + Gr V ≤ Gs (fmV V) sz
def InR (t Z : Nat) (V : VC) : Prop := V.2.2.1.1 = 0 ∧ ∃ j sz mk1, 1 ≤ j ∧ j ≤ 4 ∧ MR j sz V ∧ Num (fmV V) sz mk1 ∧ Z + Lam V + tw V + 26024 + jG j 26400 ≤ 13200 * t + jG j (Gs (fmV V) sz) + 2 * mk1 ∧ Z + Lam V + tw V + 415 ≤ 13200 * t
def Inv (t Z : Nat) (V : VC) : Prop := InC t Z V ∨ (V.2.2.2.2.1.1 ≠ 0 ∧ (InE t Z V ∨ InB t Z V ∨ InU t Z V ∨ InP t Z V ∨ InF t Z V ∨ InR t Z V))
/-- whatever it is, the slots are paid for -/
theorem inv_paid {t Z : Nat} {V : VC} (h : Inv t Z V) : Z + tw V ≤ 13200 * t := by
  have h1 := pw_le V
  rcases h with ⟨_, h⟩ | ⟨_, h⟩
  · omega
  · rcases h with ⟨_, _, h⟩ | ⟨_, h⟩ | ⟨_, h⟩ | ⟨_, j, sz, mk1, _, _, _, _, _, h⟩ | ⟨_, sz, mk1, _, h2, h3, h4, _⟩ | ⟨_, j, sz, mk1, _, _, _, _, _, h⟩
    · omega
    · omega
    · omega
    · omega
    · obtain ⟨_, _, h5, _⟩ := num_ar h2 h3
      omega
    · omega
section
variable {t Z z : Nat} {V U : VC}
theorem inv_hm (h : Inv t Z V) (hm : Hm V U) : Inv (t + 1) (Z + 0) U := by
  obtain ⟨e1, e2⟩ := hm_lam hm
  have hf := hm_fm hm
  have hU := tw_le U
  have hp : pw U = pw V := by
    unfold pw
    rw [hm.2.2.2.2.1]
  have ho := hm.2.2.2.2.2.1
  have hu : U.2.2.1.1 = V.2.2.1.1 := by rw [hm.2.2.2.2.1]
  rcases h with ⟨h0, h⟩ | ⟨h0, h⟩
  · exact Or.inl ⟨ho.trans h0, by omega⟩
  · refine Or.inr ⟨by rw [ho]; exact h0, ?_⟩
    rcases h with ⟨a, b, h⟩ | ⟨a, h⟩ | ⟨a, h⟩ | ⟨a, j, sz, mk1, b1, b2, b3, b4, b5, h⟩ | ⟨a, sz, mk1, b1, b2, b3, b4, h⟩ | ⟨a, j, sz, mk1, b1, b2, b3, b4, b5, h⟩
    · exact Or.inl ⟨hu.trans a, hm.1.trans b, by omega⟩
    · exact Or.inr (Or.inl ⟨hu.trans a, by omega⟩)
    · exact Or.inr (Or.inr (Or.inl ⟨hu.trans a, by omega⟩))
    · refine Or.inr (Or.inr (Or.inr (Or.inl ⟨hu.trans a, j, sz, mk1, b1, ?_, by rw [hf]; exact b3, by rw [hf]; generalize jG (j + 1) (Gs (fmV V) sz) = X at b4 ⊢; generalize jG (j + 1) 26400 = Y at b4 ⊢; omega, by clear b4; omega, by clear b4; omega⟩)))
      exact b2.elim (fun q => Or.inl (hm_MA hm q)) (fun q => Or.inr (hm_MC hm q))
    · refine Or.inr (Or.inr (Or.inr (Or.inr (Or.inl ⟨hu.trans a, sz, mk1, ?_, by rw [hf]; exact b2, by rw [hf]; exact b3, by rw [hf]; omega, by rw [hf]; omega⟩))))
      exact b1.elim (fun q => Or.inl (hm_MA hm q)) (fun q => Or.inr (hm_MC hm q))
    · exact Or.inr (Or.inr (Or.inr (Or.inr (Or.inr ⟨hu.trans a, j, sz, mk1, b1, b2, hm_MR hm b3, by rw [hf]; exact b4, by rw [hf]; omega, by omega⟩))))
theorem inv_wr (h : Inv t Z V) (hw : Wr V U z) : Inv (t + 1) (Z + z) U := by
  obtain ⟨w1, w2, w3, w4, w5, w6, w7⟩ := hw
  have tV : tw V = 13200 := if_neg w4
  have tU : tw U = 0 := if_pos w5
  have hp : pw U = pw V := by
    unfold pw
    rw [w3]
  have hu : U.2.2.1.1 = V.2.2.1.1 := by rw [w3]
  rcases h with ⟨h0, h⟩ | ⟨h0, h⟩
  · exact absurd h0 w1
  · refine Or.inr ⟨by rw [w2]; exact h0, ?_⟩
    rcases h with ⟨a, b, h⟩ | ⟨a, h⟩ | ⟨a, h⟩ | ⟨a, j, sz, mk1, b1, b2, b3, b4, b5, h⟩ | ⟨a, sz, mk1, b1, b2, b3, b4, h⟩ | ⟨a, j, sz, mk1, b1, b2, b3, b4, b5, h⟩
    · exact Or.inr (Or.inl ⟨hu.trans a, by omega⟩)
    · exact Or.inr (Or.inl ⟨hu.trans a, by omega⟩)
    · exact Or.inr (Or.inr (Or.inl ⟨hu.trans a, by omega⟩))
    · exact Or.inr (Or.inr (Or.inl ⟨hu.trans a, by clear b4; omega⟩))
    · obtain ⟨_, _, _, k⟩ := num_ar b2 b3
      exact Or.inr (Or.inr (Or.inl ⟨hu.trans a, by omega⟩))
    · exact Or.inr (Or.inl ⟨hu.trans a, by omega⟩)
theorem inv_closed (h : Inv t Z V) (h0 : U.2.2.2.2.1.1 = 0) (ht : tpV U = tpV V) : Inv (t + 1) (Z + 0) U := by
  have := inv_paid h
  have e : tw U = tw V := by
    unfold tw
    rw [ht]
  exact Or.inl ⟨h0, by omega⟩
theorem inv_open {tr : Nat} {S : MS} {ps : List AV} (h : Inv t Z V) (hr : Rel tr U S ps) (h0 : V.2.2.2.2.1.1 = 0) (h1 : U.2.2.2.2.1.1 = 1) (h2 : U.2.2.2.2.1.2.1 = -1) (h3 : U.2.2.1.2.2.1 = -1) (h4 : U.2.2.1.1 = 0) (ht : tpV U = tpV V) : Inv (t + 1) (Z + 0) U := by
  have e : tw U = tw V := by
    unfold tw
    rw [ht]
  have l : Lam U = 0 := by
    unfold Lam
    rw [h2, h3, lamF_m1 (fun f hf => (hr.1.1.2.1 f hf).2.1.1)]
  rcases h with ⟨_, h⟩ | ⟨h, _⟩
  · exact Or.inr ⟨by rw [h1]; decide, Or.inr (Or.inl ⟨h4, by omega⟩)⟩
  · exact absurd h0 h
theorem inv_format (h : Inv t Z V) (h1 : U.2.2.2.2.1.1 = 1) (h2 : U.1.1 = []) (h4 : U.2.2.1.1 = 0) (ht : tpV U = tpV V) : Inv (t + 1) (Z + 0) U := by
  have := inv_paid h
  have e : tw U = tw V := by
    unfold tw
    rw [ht]
  have l : Lam U = 0 := by
    unfold Lam lamF
    rw [h2]
    rfl
  exact Or.inr ⟨by rw [h1]; decide, Or.inl ⟨h4, by rw [h2]; rfl, by omega⟩⟩
theorem fcnt_nil {li : Int32} {fs : List AF} (h : shF fs = []) : fcnt li 0 fs = 0 := by
  cases fs with
  | nil => rfl
  | cons f l => cases h
theorem inv_begin {tr tr' : Nat} {S S' : MS} {ps ps' : List AV} (h : Inv t Z V) (hV : Rel tr V S ps) (htr : tr ≤ 512) (hU : Rel tr' U S' ps') (h0 : V.2.2.2.2.1.1 ≠ 0 ∧ V.2.2.1.1 = 0 ∧ ¬ fcnt V.1.2.2.2.2.2 0 V.1.1 = 0) (e : U = sStart (nedV V) (si1109 (-1) V)) : Inv (t + 1) (Z + 0) U := by
  have tU : tw U = tw V := by rw [e]; rfl
  have pU : pw U = 13200 := by rw [e]; exact if_pos ⟨rfl, rfl, rfl⟩
  have oU : U.2.2.2.2.1.1 = V.2.2.2.2.1.1 := by rw [e]; rfl
  have uU : U.2.2.1.1 = 1 := by rw [e]; rfl
  have fU : fmV U = fmV V := by rw [e]; rfl
  rw [e] at hU
  have lU : Lam U = 0 := by rw [e]; exact (mb_facts hV hU).2.2.2.2.2.2
  have no1 : ¬ V.2.2.1.1 = 1 := by rw [h0.2.1]; decide
  rcases h with ⟨h1, _⟩ | ⟨_, h⟩
  · exact absurd h1 h0.1
  · refine Or.inr ⟨by rw [oU]; exact h0.1, ?_⟩
    rcases h with ⟨a, b, h⟩ | ⟨a, h⟩ | ⟨a, h⟩ | ⟨a, _⟩ | ⟨a, _⟩ | ⟨a, j, sz, mk1, b1, b2, b3, b4, b5, h⟩
    · exact absurd (fcnt_nil b) h0.2.2
    · obtain ⟨sz, mk1, g1, g2, g3⟩ := mf_begin hV htr hU
      have g4 := gr_first hV hU
      rw [← e] at g1 g2 g4
      have jg := jG_c (Gs (fmV V) sz)
      have jh := jG_c 26400
      refine Or.inr (Or.inr (Or.inr (Or.inl ⟨uU, 0, sz, mk1, by omega, Or.inl g1, by rw [fU]; exact g3, by rw [fU]; show Z + 0 + Lam U + Gr U + tw U + 26024 + jG 1 26400 ≤ 13200 * (t + 1) + pw U + jG 1 (Gs (fmV V) sz) + 2 * mk1; omega, by omega, by omega⟩)))
    · exact absurd a no1
    · exact absurd a no1
    · exact absurd a no1
    · obtain ⟨g1, g2, g3⟩ := mr_begin hV hU b3
      rw [← e] at g1 g2
      obtain ⟨k1, k2, k3, k4⟩ := num_ar b4 g3
      by_cases j4 : j = 4
      · subst j4
        have jg := jG_c (Gs (fmV V) sz)
        have jh := jG_c 26400
        exact Or.inr (Or.inr (Or.inr (Or.inr (Or.inl ⟨uU, sz, mk1, Or.inl g1, by rw [fU]; exact b4, by rw [fU]; exact g3, by rw [fU]; omega, by rw [fU]; omega⟩))))
      · have j3 : j = 1 ∨ j = 2 ∨ j = 3 := by omega
        have jg := jG_c (Gs (fmV V) sz)
        have jh := jG_c 26400
        refine Or.inr (Or.inr (Or.inr (Or.inl ⟨uU, j, sz, mk1, by omega, Or.inl g1, by rw [fU]; exact b4, ?_, ?_, by omega⟩)))
        · rw [fU]
          rcases j3 with q | q | q
          · subst q
            show Z + 0 + Lam U + Gr U + tw U + 26024 + jG 2 26400 ≤ 13200 * (t + 1) + pw U + jG 2 (Gs (fmV V) sz) + 2 * mk1
            omega
          · subst q
            show Z + 0 + Lam U + Gr U + tw U + 26024 + jG 3 26400 ≤ 13200 * (t + 1) + pw U + jG 3 (Gs (fmV V) sz) + 2 * mk1
            omega
          · subst q
            show Z + 0 + Lam U + Gr U + tw U + 26024 + jG 4 26400 ≤ 13200 * (t + 1) + pw U + jG 4 (Gs (fmV V) sz) + 2 * mk1
            omega
        · rcases j3 with q | q | q <;> subst q <;> omega
theorem uN_zero {tr : Nat} {C : Int} {S : MS} {ps : List AV} (h : RelB tr C V S ps) : V.2.2.1.1 = 0 ∨ V.2.2.1.1 = 1 := by
  rcases h.2.2.2 with d | d | d
  · exact Or.inl d.1
  · exact Or.inr d.1
  · exact Or.inr d.1
theorem inv_mstep {k : Nat} (h : Inv t Z V) (hr : RU V) (h0 : V.2.2.2.2.1.1 ≠ 0) (h1 : V.2.2.1.1 ≠ 0) (hk : k ≤ uN V) : Inv (t + 1) (Z + (itU k V).2) (itU k V).1 := by
  have g := gr_it hr k hk
  have vk := itU_vk k V
  have tU : tw (itU k V).1 = tw V := by
    unfold tw tpV
    rw [vk]
  have fU := itU_fm k V
  have pV := pw_le V
  obtain ⟨⟨tr, C, S, ps, _, hR⟩, _, _⟩ := hr k hk
  have hu := uN_zero hR
  generalize hW : (itU k V).1 = W at *
  have gr0 : W.2.2.1.1 = 0 → Gr W = 0 ∧ pw W = 0 := by
    intro q
    unfold Gr pw
    rw [q]
    exact ⟨if_neg (fun z => absurd z.1 (by decide)), if_neg (fun z => absurd z.1 (by decide))⟩
  rcases h with ⟨q, _⟩ | ⟨_, h⟩
  · exact absurd q h0
  · refine Or.inr ⟨by rw [vk]; exact h0, ?_⟩
    rcases h with ⟨a, b, h⟩ | ⟨a, h⟩ | ⟨a, h⟩ | ⟨a, j, sz, mk1, b1, b2, b3, b4, b5, h⟩ | ⟨a, sz, mk1, b1, b2, b3, b4, h⟩ | ⟨a, _⟩
    · exact absurd a h1
    · exact absurd a h1
    · rcases hu with u | u
      · obtain ⟨q1, q2⟩ := gr0 u
        exact Or.inr (Or.inl ⟨u, by omega⟩)
      · exact Or.inr (Or.inr (Or.inl ⟨u, by omega⟩))
    · obtain ⟨r1, _⟩ := run_it b2 hr k hk
      rw [hW] at r1
      rcases r1 with r1 | r1
      · have u : W.2.2.1.1 = 1 := by
          rcases r1 with ⟨_, _, _, _, _, _, q, _⟩ | ⟨_, _, _, _, _, _, q, _⟩
          · exact q.un
          · exact q.2.1.1
        exact Or.inr (Or.inr (Or.inr (Or.inl ⟨u, j, sz, mk1, b1, r1, by rw [fU]; exact b3, by rw [fU]; generalize jG (j + 1) (Gs (fmV V) sz) = X at b4 ⊢; generalize jG (j + 1) 26400 = Y at b4 ⊢; omega, by clear b4; omega, by clear b4; omega⟩)))
      · have u : W.2.2.1.1 = 0 := by
          obtain ⟨_, _, _, q, _⟩ := r1
          exact q.2.1
        obtain ⟨q1, q2⟩ := gr0 u
        rw [show min (j + 1) 4 = j + 1 by omega] at r1
        exact Or.inr (Or.inr (Or.inr (Or.inr (Or.inr ⟨u, j + 1, sz, mk1, Nat.succ_pos j, Nat.succ_le_succ b1, r1, by rw [fU]; exact b3, by rw [fU]; generalize jG (j + 1) (Gs (fmV V) sz) = X at b4 ⊢; generalize jG (j + 1) 26400 = Y at b4 ⊢; omega, by clear b4; omega⟩))))
    · obtain ⟨r1, r2⟩ := run_it b1 hr k hk
      have r2 := r2 (Nat.le_refl _)
      rw [hW] at r1
      rcases r1 with r1 | r1
      · have u : W.2.2.1.1 = 1 := by
          rcases r1 with ⟨_, _, _, _, _, _, q, _⟩ | ⟨_, _, _, _, _, _, q, _⟩
          · exact q.un
          · exact q.2.1.1
        exact Or.inr (Or.inr (Or.inr (Or.inr (Or.inl ⟨u, sz, mk1, r1, by rw [fU]; exact b2, by rw [fU]; exact b3, by rw [fU]; omega, by rw [fU]; omega⟩))))
      · obtain ⟨A, psL, cop, q, s⟩ := r1
        have u := q.2.1
        obtain ⟨q1, q2⟩ := gr0 u
        have l : Lam W = 0 := by
          unfold Lam
          rw [q.2.2.1.1, q.2.2.1.2, lamF_m1 (fun f hf => (hR.1.1.2.1 f hf).2.1.1)]
        obtain ⟨_, _, k3, _⟩ := num_ar b2 b3
        have jg := jG_c (Gs (fmV V) sz)
        have jh := jG_c 26400
        exact Or.inr (Or.inr (Or.inr (Or.inr (Or.inr ⟨u, 4, sz, mk1, by omega, by omega, ⟨A, psL, cop, q, s⟩, by rw [fU]; exact b2, by rw [fU]; omega, by omega⟩))))
    · exact absurd a h1
theorem inv_step (h : Inv t Z V) (hs : Stq V U z) (hV : RRV V) (hru : RU V) (hU : RRV U) : Inv (t + 1) (Z + z) U := by
  obtain ⟨tv, S, ps, htv, hV⟩ := hV
  obtain ⟨tu, S', ps', htu, hU⟩ := hU
  obtain ⟨k, a, b, c, p, q, hs⟩ := hs
  have e1 := congrArg (fun x : VC × Nat => x.1) hs
  have e2 := congrArg (fun x : VC × Nat => x.2) hs
  unfold sOp at e1 e2
  dsimp only at e1 e2
  split at e1
  · rename_i c0
    rw [if_pos c0] at e2
    obtain ⟨f1, f2, f3⟩ := e_format a b V
    rw [e1] at f1 f2
    rw [← e2, f3]
    rcases f1 with w | ⟨w1, w2, w3⟩
    · exact inv_hm h w
    · exact inv_format h w1 w2 w3 f2
  rename_i c0
  rw [if_neg c0] at e2
  split at e1
  · rename_i c0
    rw [if_pos c0] at e2
    obtain ⟨f1, f2⟩ := e_feed a p q V
    rw [e1] at f1
    rw [← e2, f2]
    exact inv_hm h f1
  rename_i c0
  rw [if_neg c0] at e2
  split at e1
  · rename_i c0
    rw [if_pos c0] at e2
    have f := e_put (ks := a) hV (by rw [e1]; exact hU)
    rw [e1, e2] at f
    rcases f with ⟨f1, f2⟩ | f
    · rw [f2]
      exact inv_hm h f1
    · exact inv_wr h f
  rename_i c0
  rw [if_neg c0] at e2
  split at e1
  · rename_i c0
    rw [if_pos c0] at e2
    have f := e_rem hV
    rw [e1, e2] at f
    rcases f with ⟨f1, f2⟩ | f
    · rw [f2]
      exact inv_hm h f1
    · exact inv_wr h f
  rename_i c0
  rw [if_neg c0] at e2
  split at e1
  · rename_i c0
    rw [if_pos c0] at e2
    obtain ⟨f1, f2⟩ := e_get V
    rw [e1] at f1
    rw [← e2, f2]
    exact inv_hm h f1
  rename_i c0
  rw [if_neg c0] at e2
  split at e1
  · rename_i c0
    rw [if_pos c0] at e2
    obtain ⟨f1, f2⟩ := e_sync V
    rw [e1] at f1
    rw [← e2, f2]
    exact inv_hm h f1
  rename_i c0
  rw [if_neg c0] at e2
  split at e1
  · rename_i c0
    rw [if_pos c0] at e2
    obtain ⟨f1, f2, f3⟩ := e_crash a V
    rw [e1] at f1 f2
    rw [← e2, f3]
    rcases f1 with w | ⟨w1, w2, w3⟩
    · exact inv_hm h w
    · exact inv_closed h w2 f2
  rename_i c0
  rw [if_neg c0] at e2
  split at e1
  · rename_i c0
    rw [if_pos c0] at e2
    obtain ⟨f1, f2, f3⟩ := e_open V
    rw [e1] at f1 f2
    rw [← e2, f3]
    rcases f1 with w | ⟨w1, w2, w3, w4, w5⟩
    · exact inv_hm h w
    · exact inv_open h hU w1 w2 w3 w4 w5 f2
  rename_i c0
  rw [if_neg c0] at e2
  split at e1
  · rename_i c0
    rw [if_pos c0] at e2
    obtain ⟨f1, f2, f3⟩ := e_mbeg V
    rw [e1] at f1 f2
    rw [← e2, f3]
    rcases f1 with w | ⟨w1, w2⟩
    · exact inv_hm h w
    · exact inv_begin h hV htv hU w1 w2
  rename_i c0
  rw [if_neg c0] at e2
  split at e1
  · rename_i c0
    rw [if_pos c0] at e2
    rcases e_mstep a hV with ⟨f1, f2⟩ | ⟨f1, f2, k, f3, f4⟩
    · rw [e1] at f1
      rw [← e2, f2]
      exact inv_hm h f1
    · rw [← e1, ← e2, f4]
      exact inv_mstep h hru f1 f2 f3
  rename_i c0
  rw [if_neg c0] at e2
  split at e1
  · rename_i c0
    rw [if_pos c0] at e2
    obtain ⟨f1, f2, f3⟩ := e_patch a b c V
    rw [e1] at f1 f2
    rw [← e2, f3]
    rcases f1 with w | w
    · exact inv_hm h w
    · exact inv_closed h (by rw [f2]; exact w) (by unfold tpV; rw [f2])
  rename_i c0
  rw [if_neg c0] at e2
  split at e1
  · rename_i c0
    rw [if_pos c0] at e2
    obtain ⟨f1, f2⟩ := e_bad V
    rw [e1] at f1
    rw [← e2, f2]
    exact inv_hm h f1
  · rename_i c0
    rw [if_neg c0] at e2
    rw [← e1, ← e2]
    exact inv_hm h hm_rfl
end
theorem inv_path : ∀ (k t Z : Nat) (V W : VC) (z : Nat), Inv t Z V → Pth k V W z → Inv (t + k) (Z + z) W
  | 0, t, Z, V, W, z, h, hp => by
    obtain ⟨e1, e2⟩ := hp
    subst e1 e2
    exact h
  | k + 1, t, Z, V, W, z, h, hp => by
    obtain ⟨U, z1, z2, h1, ⟨⟨h2, h3⟩, h4, _⟩, h5, h6⟩ := hp
    have := inv_path k (t + 1) (Z + z1) U W z2 (inv_step h h1 h2 h3 h4) h5
    rw [h6, show t + (k + 1) = t + 1 + k by omega, show Z + (z1 + z2) = Z + z1 + z2 by omega]
    exact this
/-- the path's cost -/
theorem path_cost {k z : Nat} {V' : VC} (hk : k ≤ 512) (h : Pth k (sBegin 4096 512 V00) V' z) : z ≤ 6758400 := by
  have h0 : Inv 0 0 (sBegin 4096 512 V00) := by
    refine Or.inr ⟨by decide, Or.inl ⟨rfl, rfl, ?_⟩⟩
    exact Nat.le_refl _
  have := inv_paid (inv_path k 0 0 _ _ z h0 h)
  omega
