/-! an opening: what its reading leaves -/
theorem csg_len : ∀ xs ys : List Int32, csg xs ys = 0 → xs.length = ys.length
  | [], ys, h => by
    rw [csg_nil (Or.inl rfl)] at h
    simp only [List.length_nil] at h ⊢
    omega
  | x :: xs, [], h => by
    rw [csg_nil (Or.inr rfl)] at h
    simp only [List.length_cons, List.length_nil] at h
    omega
  | x :: xs, y :: ys, h => by
    rw [csg_cons] at h
    by_cases e : bv x = bv y
    · rw [if_pos e] at h
      rw [List.length_cons, List.length_cons, csg_len xs ys h]
    · rw [if_neg e] at h
      omega
theorem opR_mem {t : List Int32} {a b c d : Int32} {rs : List AR} {r : AR} (hd : ¬ d < 0) (h : r ∈ opR t a b c d rs) : r ∈ rs ∨ ∃ t', t'.length = t.length ∧ r = (t', a, b, c, d) := by
  cases hl : lokR t rs with
  | some x =>
    rw [opR_some hl] at h
    split at h
    · exact Or.inl h
    · obtain ⟨q1, q2, q3⟩ := telR_some (a := a) (b := b) (c := c) (d := d) hl
      rw [q1] at h
      rcases List.mem_or_eq_of_mem_set h with q | q
      · exact Or.inl q
      · exact Or.inr ⟨x.1, csg_len _ _ q3, q⟩
  | none =>
    rw [opR_none hl hd, telR_none hl] at h
    rcases List.mem_append.mp h with q | q
    · exact Or.inl (List.mem_of_mem_take q)
    · rcases List.mem_cons.mp q with q | q
      · exact Or.inr ⟨t, rfl, q⟩
      · exact Or.inl (List.mem_of_mem_drop q)
theorem told_nn {st ks vs : Int32} (h : told st ks vs = true) : ¬ st < 0 := by
  have := told_rng h
  rw [Int32.lt_iff_toInt_lt, Int32.toInt_zero]
  omega
def st6 (V : VC) : Prop := 0 ≤ V.2.2.2.1.2.2.2.2.toInt ∧ V.2.2.2.1.2.2.2.2.toInt ≤ 1000000000
theorem rh_rows {P : AR → Prop} (l : List Int32) (a : Int32) (en : Nat) (ds : Int32) (hl : l.length < 2 ^ 31) (hen : en ≤ l.length) (hent : ∀ (j : Nat) (t' : List Int32), gen l j en ds = true → t'.length = (bsh l (nI j + 8)).toNatClampNeg → P (t', a, bnm l (nI j + 4), bnm l (nI j + 10), bnm l (nI j))) : ∀ (u j : Nat) (c : Int32) (V : VC), ghL l en ds u j c = true → (∀ r, r ∈ V.2.1 → P r) → st6 V → (∀ r, r ∈ (rhL l a en u j V).2.1 → P r) ∧ st6 (rhL l a en u j V)
  | 0, j, c, V, h, _, _ => by cases h
  | u + 1, j, c, V, h, hP, hs => by
    unfold ghL at h
    unfold rhL
    by_cases ce : en ≤ j
    · rw [if_pos ce]
      exact ⟨hP, hs⟩
    · rw [if_neg ce] at h ⊢
      obtain ⟨h1, h2⟩ := Bool.and_eq_true_iff.mp h
      have h1' := h1
      unfold gen at h1
      simp only [Bool.and_eq_true] at h1
      obtain ⟨⟨⟨⟨g1, g2⟩, g3⟩, g4⟩, g5⟩ := h1
      have g3 := of_decide_eq_true g3
      refine rh_rows l a en ds hl hen hent u _ (c + 1) _ h2 (fun r hr => ?_) (imx_rng hs (told_rng g2))
      rcases opR_mem (told_nn g2) hr with q | ⟨t', q1, q2⟩
      · exact hP r q
      · rw [q2]
        refine hent j t' h1' (q1.trans ?_)
        unfold keyA
        rw [List.length_take, List.length_drop]
        omega
theorem rr_rows {P : Nat → AR → Prop} (l : List Int32) (a : Int32) (hmono : ∀ n n' r, n ≤ n' → P n r → P n' r) (hent : ∀ (j : Nat) (t' : List Int32), whl l j = true → t'.length = (bsh l (nI j + 8)).toNatClampNeg → P (j + rsn (bsh l (nI j + 8)) (bnm l (nI j + 10))) (t', a, nI j, bnm l (nI j + 10), bnm l (nI j + 4))) : ∀ (u i : Nat) (V : VC), i ≤ l.length → (∀ r, r ∈ V.2.1 → P i r) → st6 V → (∀ r, r ∈ (rrL l a u i V).2.2.1 → P (rrL l a u i V).1 r) ∧ st6 (rrL l a u i V).2 ∧ ((rrL l a u i V).1 = i → (rrL l a u i V).2.2.1 = V.2.1)
  | 0, i, V, _, hP, hs => ⟨hP, hs, fun _ => rfl⟩
  | u + 1, i, V, hi, hP, hs => by
    unfold rrL
    cases hw : whl l i with
    | false => exact ⟨hP, hs, fun _ => rfl⟩
    | true =>
      dsimp only
      have hw1 := hw
      unfold whl at hw1
      simp only [Bool.and_eq_true] at hw1
      obtain ⟨⟨⟨g1, g2⟩, g3⟩, g4⟩ := hw1
      have g3 := of_decide_eq_true g3
      have r14 : 14 + (bsh l (nI i + 8)).toNatClampNeg ≤ rsn (bsh l (nI i + 8)) (bnm l (nI i + 10)) := by
        unfold rsn
        omega
      obtain ⟨d1, _⟩ := told_d g2
      have ih := rr_rows l a hmono hent u (i + rsn (bsh l (nI i + 8)) (bnm l (nI i + 10))) (si903 (V.2.2.2.1.2.1 + 1) (opRd (keyA l i) a (nI i) (bnm l (nI i + 10)) (bnm l (nI i + 4)) V)) g3 (fun r hr => ?_) (imx_rng hs (told_rng g2))
      · refine ⟨ih.1, ih.2.1, fun e => ?_⟩
        have := (rr_bnd l a u (i + rsn (bsh l (nI i + 8)) (bnm l (nI i + 10))) (si903 (V.2.2.2.1.2.1 + 1) (opRd (keyA l i) a (nI i) (bnm l (nI i + 10)) (bnm l (nI i + 4)) V)) g3).2.1
        omega
      · rcases opR_mem (told_nn g2) hr with q | ⟨t', q1, q2⟩
        · exact hmono _ _ r (by omega) (hP r q)
        · rw [q2]
          refine hent i t' hw (q1.trans ?_)
          unfold keyA
          rw [List.length_take, List.length_drop]
          omega
/-- what an opening leaves alone -/
def KS (V V' : VC) : Prop := V'.1.2.2 = V.1.2.2 ∧ V'.2.2.1 = V.2.2.1 ∧ V'.2.2.2.2 = V.2.2.2.2
theorem ks_tr {A B C : VC} (h : KS A B) (h2 : KS B C) : KS A C := ⟨h2.1.trans h.1, h2.2.1.trans h.2.1, h2.2.2.trans h.2.2⟩
theorem ks_rfl {A : VC} : KS A A := ⟨rfl, rfl, rfl⟩
theorem ks_dis (a b : Int32) (V : VC) : KS V (opDis a b V) := by
  refine ⟨?_, by rw [opDis_rest], by rw [opDis_rest]⟩
  unfold opDis
  split
  · show (vDis a b V.1).2.2 = _
    unfold vDis
    split <;> rfl
  · rfl
theorem ks_opN (l : List Int32) : ∀ (m i : Nat) (V : VC), KS V (opN l m i V)
  | 0, _, _ => ks_rfl
  | m + 1, i, V => ks_tr (ks_tr (ks_dis _ _ _) (ks_dis _ _ _)) (ks_opN l m (i + 4) _)
theorem ks_obM : ∀ (t : Nat) (V : VC), KS V (obM t V)
  | 0, _ => ks_rfl
  | t + 1, V => by
    unfold obM
    split
    · exact ks_rfl
    · rename_i f _
      cases hg : gmk f.2.2.1 with
      | true => exact ks_tr (ks_tr (ks_opN _ _ _ _) (ks_dis _ _ _)) (ks_obM t _)
      | false => exact ks_tr (ks_dis _ _ _) (ks_obM t _)
theorem ks_dlH : ∀ (i : Nat) (V : VC), KS V (dlH i V)
  | 0, _ => ks_rfl
  | i + 1, V => by
    unfold dlH
    split
    · exact ks_dlH i V
    · split
      · exact ks_tr (ks_dis _ _ _) (ks_dlH i _)
      · exact ks_dlH i V
theorem ks_rh (l : List Int32) (a : Int32) (en : Nat) : ∀ (m i : Nat) (V : VC), KS V (rhL l a en m i V)
  | 0, _, _ => ks_rfl
  | m + 1, i, V => by
    unfold rhL
    split
    · exact ks_rfl
    · exact ks_tr ⟨rfl, rfl, rfl⟩ (ks_rh l a en m _ _)
theorem ks_rr (l : List Int32) (a : Int32) : ∀ (m i : Nat) (V : VC), KS V (rrL l a m i V).2
  | 0, _, _ => ks_rfl
  | m + 1, i, V => by
    unfold rrL
    split
    · exact ks_rfl
    · exact ks_tr ⟨rfl, rfl, rfl⟩ (ks_rr l a m _ _)
theorem ks_rrE (p : Nat) (a : Int32) (len i : Nat) (V : VC) : KS V (rrE p a len i V) := by
  unfold rrE
  cases i with
  | zero => exact ks_tr ⟨rfl, rfl, rfl⟩ (ks_dis _ _ _)
  | succ i => exact ⟨rfl, rfl, rfl⟩
theorem ks_rdV (p : Nat) (f : AF) (V : VC) : KS V (rdV p f V).2 := ks_tr (ks_rr _ _ _ _ _) (ks_rrE _ _ _ _ _)
/-- a row, of a file before the place i -/
def RPi (fs : List AF) (i : Nat) (r : AR) : Prop := (1 ≤ r.1.length ∧ r.1.length ≤ 16 ∧ ¬ r.2.2.2.1 < -1 ∧ r.2.2.2.1.toNatClampNeg ≤ 64) ∧ ∃ j x P, j < i ∧ fs[j]? = some x ∧ x.1 = r.2.1 ∧ x.2.1 = 0 ∧ r.2.2.1 = nI P ∧ P + (14 + r.1.length + r.2.2.2.1.toNatClampNeg) ≤ x.2.2.1.length
theorem rpi_mv {fs fs' : List AF} {i i' : Nat} {r : AR} (h : RPi fs i r) (hi : i ≤ i') (he : ∀ j, j < i → fs'[j]? = fs[j]?) : RPi fs' i' r := by
  obtain ⟨h1, j, x, P, h2, h3, h4⟩ := h
  exact ⟨h1, j, x, P, by omega, by rw [he j h2]; exact h3, h4⟩
/-- the files are what is left of those of B -/
def Of (B fs : List AF) : Prop := ∀ y, y ∈ fs → ∃ x, x ∈ B ∧ y.1 = x.1 ∧ y.2.1 = x.2.1 ∧ y.2.2.1.length ≤ x.2.2.1.length ∧ y.2.2.2.2 = x.2.2.2.2
def OIv (B : List AF) (n0 : Nat) (V0 : VC) (i : Nat) (V : VC) : Prop := (SrtF V.1.1 ∧ SrtR V.2.1 ∧ HDl (V.1.1.drop i) ∧ Of B V.1.1 ∧ ∀ y, y ∈ V.1.1 → 1 ≤ y.2.2.1.length) ∧ (∀ r, r ∈ V.2.1 → RPi V.1.1 i r) ∧ (15 * V.2.1.length + totF (V.1.1.drop i) ≤ totF V.1.1 ∧ totF V.1.1 ≤ totF B ∧ totF B ≤ 16384) ∧ scnt V.1.1 ≤ n0 ∧ st6 V ∧ KS V0 V
theorem Of_dis {B fs : List AF} {a b : Int32} (h : Of B fs) (hS : SrtF fs) : Of B (disF a b fs) := fun y hy => h y ((mem_disF hS).mp hy).1
theorem disF_sub {fs : List AF} {a b : Int32} : (disF a b fs).Sublist fs := by
  unfold disF
  split
  · exact List.Sublist.refl _
  · exact List.eraseIdx_sublist _ _
theorem rr_15 (l : List Int32) (a : Int32) (u : Nat) (V : VC) : (rrL l a u 0 V).1 = 0 ∨ 15 ≤ (rrL l a u 0 V).1 := by
  cases u with
  | zero => exact Or.inl rfl
  | succ u =>
    unfold rrL
    cases hw : whl l 0 with
    | false => exact Or.inl rfl
    | true =>
      dsimp only
      have hw1 := hw
      unfold whl at hw1
      simp only [Bool.and_eq_true] at hw1
      obtain ⟨⟨⟨g1, g2⟩, g3⟩, g4⟩ := hw1
      have g3 := of_decide_eq_true g3
      obtain ⟨d1, _⟩ := told_d g2
      have r15 : 15 ≤ rsn (bsh l (nI 0 + 8)) (bnm l (nI 0 + 10)) := by
        unfold rsn
        omega
      have := (rr_bnd l a u (0 + rsn (bsh l (nI 0 + 8)) (bnm l (nI 0 + 10))) (si903 (V.2.2.2.1.2.1 + 1) (opRd (keyA l 0) a (nI 0) (bnm l (nI 0 + 10)) (bnm l (nI 0 + 4)) V)) g3).2.1
      exact Or.inr (by omega)
theorem oiv_rd {B : List AF} {n0 : Nat} {V0 : VC} : ∀ (N t i : Nat) (V : VC), t ≤ N → i ≤ V.1.1.length → V.1.1.length - i ≤ t → OIv B n0 V0 i V → OIv B n0 V0 (rdF t i V).1.1.length (rdF t i V)
  | N, 0, i, V, _, hi, ht, h => by
    have : i = V.1.1.length := by omega
    show OIv B n0 V0 V.1.1.length V
    rw [← this]
    exact h
  | 0, t + 1, _, _, h, _, _, _ => by omega
  | N + 1, t + 1, i, V, hN, hi, ht, h => by
    by_cases ci : i < V.1.1.length
    · obtain ⟨⟨hS, hR, hH, hOf, h1⟩, hRP, ⟨hb, hT1, hT2⟩, hsc, hs, hks⟩ := h
      have hT : totF V.1.1 ≤ 16384 := by omega
      obtain ⟨f, hf⟩ := some_of_lt ci
      have hd := drop_cons hf
      rw [hd] at hH hb
      have h0 := hd_head hH
      have hb : 15 * V.2.1.length + (f.2.2.1.length + totF (V.1.1.drop (i + 1))) ≤ totF V.1.1 := hb
      have ltf := mem_tot (List.mem_of_getElem? hf)
      cases hg : ghF f V.1.1 with
      | some x =>
        obtain ⟨g1, g2⟩ := Option.filter_eq_some_iff.mp hg
        obtain ⟨l2, e1, e2⟩ := hd_hint hS hd hH g1
        obtain ⟨xm, _, k1⟩ := fnd_mem g1
        have ltx := mem_tot xm
        rw [e1] at hH hb
        obtain ⟨hxn, hH2⟩ := hd_tail2 hH k1
        have hb : 15 * V.2.1.length + (f.2.2.1.length + (x.2.2.1.length + totF l2)) ≤ totF V.1.1 := hb
        obtain ⟨g3, g4⟩ := ghi_d g2
        obtain ⟨b1, b2⟩ := rh_bnd x.2.2.1 x.1 (x.2.2.1.length - 4) (nI f.2.2.1.length) 20000 4 0 V g4 (by omega)
        have ea := rh_arr x.2.2.1 x.1 (x.2.2.1.length - 4) 20000 4 V
        have ek := ks_rh x.2.2.1 x.1 (x.2.2.1.length - 4) 20000 4 V
        have hx1 : V.1.1[i + 1]? = some x := by
          rw [← e2]
          exact (fndF_some g1).1
        have hent : ∀ (j : Nat) (t' : List Int32), gen x.2.2.1 j (x.2.2.1.length - 4) (nI f.2.2.1.length) = true → t'.length = (bsh x.2.2.1 (nI j + 8)).toNatClampNeg → RPi V.1.1 (i + 2) (t', x.1, bnm x.2.2.1 (nI j + 4), bnm x.2.2.1 (nI j + 10), bnm x.2.2.1 (nI j)) := by
          intro j t' hge hlt
          unfold gen at hge
          simp only [Bool.and_eq_true] at hge
          obtain ⟨⟨⟨⟨q1, q2⟩, q3⟩, q4⟩, q5⟩ := hge
          obtain ⟨d1, d2, d3, d4, d5, d6⟩ := told_d q2
          have q4 := of_decide_eq_true q4
          have q5 := of_decide_eq_true q5
          have ez := rsz_told q2
          refine ⟨⟨by show 1 ≤ t'.length; omega, by show t'.length ≤ 16; omega, d6, d3⟩, i, f, (bnm x.2.2.1 (nI j + 4)).toNatClampNeg, by omega, hf, hxn.symm, h0, nI_cl q4, ?_⟩
          show (bnm x.2.2.1 (nI j + 4)).toNatClampNeg + (14 + t'.length + (bnm x.2.2.1 (nI j + 10)).toNatClampNeg) ≤ f.2.2.1.length
          have rb : rsn (bsh x.2.2.1 (nI j + 8)) (bnm x.2.2.1 (nI j + 10)) = 14 + (bsh x.2.2.1 (nI j + 8)).toNatClampNeg + (bnm x.2.2.1 (nI j + 10)).toNatClampNeg := rfl
          rw [ez, Int32.lt_iff_toInt_lt, Int32.toInt_sub, nI_toInt (by omega), nI_toInt (by omega), Int.bmod_eq_of_le (by omega) (by omega)] at q5
          rw [Int32.lt_iff_toInt_lt, Int32.toInt_zero] at q4
          have : (bnm x.2.2.1 (nI j + 4)).toNatClampNeg = (bnm x.2.2.1 (nI j + 4)).toInt.toNat := rfl
          omega
        have rr := rh_rows (P := fun r => RPi V.1.1 (i + 2) r) x.2.2.1 x.1 (x.2.2.1.length - 4) (nI f.2.2.1.length) (by omega) (by omega) hent 20000 4 0 V g4 (fun r hr => rpi_mv (hRP r hr) (by omega) (fun _ _ => rfl)) hs
        rw [rdF_hint hf h0 hg]
        generalize rhL x.2.2.1 x.1 (x.2.2.1.length - 4) 20000 4 V = V2 at *
        have hx2 : V2.1.1[i + 1]? = some x := by
          rw [ea]
          exact hx1
        have lx := lt_of_some hx2
        have ll : V2.1.1.length = V.1.1.length := by rw [ea]
        obtain ⟨t, rfl⟩ : ∃ t', t = t' + 1 := ⟨t - 1, by omega⟩
        rw [rdF_skip hx2 (by rw [k1]; decide)]
        have ed : V2.1.1.drop (i + 1 + 1) = l2 := by
          rw [ea]
          exact (drop_get e1).2
        refine oiv_rd N t (i + 1 + 1) V2 (by omega) (by omega) (by omega) ⟨⟨by rw [ea]; exact hS, b2 hR, by rw [ed]; exact hH2, by rw [ea]; exact hOf, by rw [ea]; exact h1⟩, ?_, ?_, by rw [ea]; exact hsc, rr.2, ks_tr hks ek⟩
        · rw [ea]
          exact rr.1
        · rw [ed, ea]
          omega
      | none =>
        obtain ⟨l2, e1, e2, e3, e4, e5, e6⟩ := op_hint hS hd hH
        obtain ⟨hf2, hl2⟩ := drop_get e1
        obtain ⟨r1, r2, r3, r4, r5, r6⟩ := rdV_files e4 e1 h0
        rw [rdF_data hf h0 hg]
        have etake : ∀ j, j < i → (opDis f.1 1 V).1.1[j]? = V.1.1[j]? := by
          intro j hj
          rw [opDis_files]
          unfold disF
          cases hx : fndF f.1 1 V.1.1 with
          | none => rfl
          | some x =>
            obtain ⟨l3, _, e8⟩ := hd_hint hS hd hH hx
            show (V.1.1.eraseIdx (plF f.1 1 V.1.1))[j]? = _
            rw [e8, List.getElem?_eraseIdx, if_pos (by omega)]
        have hsd : scnt (opDis f.1 1 V).1.1 ≤ n0 := by
          rw [opDis_files]
          exact Nat.le_trans (scnt_sub disF_sub) hsc
        have hOd : Of B (opDis f.1 1 V).1.1 := by
          rw [opDis_files]
          exact Of_dis hOf hS
        have htd : totF (opDis f.1 1 V).1.1 ≤ totF V.1.1 := by
          rw [opDis_files]
          exact totF_sub disF_sub
        have h1d : ∀ y, y ∈ (opDis f.1 1 V).1.1 → 1 ≤ y.2.2.1.length := by
          intro y hy
          rw [opDis_files] at hy
          exact h1 y ((mem_disF hS).mp hy).1
        have hsd6 : st6 (opDis f.1 1 V) := by
          unfold st6
          rw [opDis_rest]
          exact hs
        have epos : (rdV i f (opDis f.1 1 V)).1 = (rrL f.2.2.1 f.1 f.2.2.1.length 0 (opDis f.1 1 V)).1 := rfl
        have erow : (rdV i f (opDis f.1 1 V)).2.2.1 = (rrL f.2.2.1 f.1 f.2.2.1.length 0 (opDis f.1 1 V)).2.2.1 := by
          have ha : (rrL f.2.2.1 f.1 f.2.2.1.length 0 (opDis f.1 1 V)).2.1 = (opDis f.1 1 V).1 := (rr_bnd f.2.2.1 f.1 f.2.2.1.length 0 (opDis f.1 1 V) (Nat.zero_le _)).1
          exact (rrE_files (n := f.2.2.1.length) (i := (rdV i f (opDis f.1 1 V)).1) (V := (rrL f.2.2.1 f.1 f.2.2.1.length 0 (opDis f.1 1 V)).2) (by rw [ha]; exact e4) (by rw [ha]; exact hf2) h0).2
        have rr2 := rr_rows (P := fun n r => r ∈ V.2.1 ∨ ((1 ≤ r.1.length ∧ r.1.length ≤ 16 ∧ ¬ r.2.2.2.1 < -1 ∧ r.2.2.2.1.toNatClampNeg ≤ 64) ∧ r.2.1 = f.1 ∧ ∃ P, r.2.2.1 = nI P ∧ P + (14 + r.1.length + r.2.2.2.1.toNatClampNeg) ≤ n)) f.2.2.1 f.1 (fun n n' r hn hP => hP.elim Or.inl (fun q => Or.inr ⟨q.1, q.2.1, by
          obtain ⟨P, p1, p2⟩ := q.2.2
          exact ⟨P, p1, by omega⟩⟩)) (fun j t' hw hlt => by
            unfold whl at hw
            simp only [Bool.and_eq_true] at hw
            obtain ⟨⟨⟨q1, q2⟩, q3⟩, q4⟩ := hw
            obtain ⟨d1, d2, d3, d4, d5, d6⟩ := told_d q2
            refine Or.inr ⟨⟨by show 1 ≤ t'.length; omega, by show t'.length ≤ 16; omega, d6, d3⟩, rfl, j, rfl, ?_⟩
            show j + (14 + t'.length + (bnm f.2.2.1 (nI j + 10)).toNatClampNeg) ≤ j + rsn (bsh f.2.2.1 (nI j + 8)) (bnm f.2.2.1 (nI j + 10))
            unfold rsn
            omega) f.2.2.1.length 0 (opDis f.1 1 V) (Nat.zero_le _) (fun r hr => by rw [e5] at hr; exact Or.inl hr) hsd6
        obtain ⟨q1, q2, q3⟩ := rr2
        have hst : st6 (rdV i f (opDis f.1 1 V)).2 := by
          have : ∀ (p : Nat) (a : Int32) (len i : Nat) (W : VC), st6 W → st6 (rrE p a len i W) := by
            intro p a len i W hW
            unfold rrE
            cases i with
            | zero =>
              unfold st6
              show 0 ≤ (opDis a 0 _).2.2.2.1.2.2.2.2.toInt ∧ (opDis a 0 _).2.2.2.1.2.2.2.2.toInt ≤ _
              rw [opDis_rest]
              exact hW
            | succ i => exact hW
          exact this _ _ _ _ _ q2
        have hk2 := ks_tr hks (ks_tr (ks_dis f.1 1 V) (ks_rdV i f (opDis f.1 1 V)))
        have tl := totF_drop e1
        have hfl : i + 1 + l2.length = (opDis f.1 1 V).1.1.length := by
          have := congrArg List.length e1
          rw [List.length_drop, List.length_cons] at this
          have := lt_of_some hf2
          omega
        have tt : totF (opDis f.1 1 V).1.1 = totF ((opDis f.1 1 V).1.1.take i) + (f.2.2.1.length + totF l2) := by
          rw [← tl, ← totF_app, List.take_append_drop]
        by_cases cz : (rdV i f (opDis f.1 1 V)).1 = 0
        · rw [if_pos cz]
          rw [if_pos cz] at r2 r6
          have erows : (rdV i f (opDis f.1 1 V)).2.2.1 = V.2.1 := by
            rw [erow, q3 cz, e5]
          have hlz : (rdV i f (opDis f.1 1 V)).2.1.1.length = i + l2.length := by
            rw [r6, List.length_eraseIdx, if_pos (lt_of_some hf2)]
            omega
          have tz : totF (rdV i f (opDis f.1 1 V)).2.1.1 = totF ((opDis f.1 1 V).1.1.take i) + totF l2 := by
            rw [r6, era_split hf2, totF_app, hl2]
          refine oiv_rd N t i _ (by omega) (by omega) (by omega) ⟨⟨r1, r5 (by rw [e5]; exact hR), by rw [r2]; exact e2, ?_, ?_⟩, ?_, ⟨?_, ?_⟩, ?_, hst, hk2⟩
          · rw [r6]
            exact fun y hy => hOd y (List.mem_of_mem_eraseIdx hy)
          · rw [r6]
            exact fun y hy => h1d y (List.mem_of_mem_eraseIdx hy)
          · intro r hr
            rw [erows] at hr
            refine rpi_mv (hRP r hr) (Nat.le_refl _) (fun j hj => ?_)
            rw [r6, List.getElem?_eraseIdx, if_pos hj]
            exact etake j hj
          · rw [r2, erows, tz]
            have tk : totF (V.1.1.take i) = totF ((opDis f.1 1 V).1.1.take i) := by
              have : (opDis f.1 1 V).1.1.take i = V.1.1.take i := by
                apply List.ext_getElem?
                intro j
                rw [List.getElem?_take, List.getElem?_take]
                by_cases cj : j < i
                · rw [if_pos cj, if_pos cj, etake j cj]
                · rw [if_neg cj, if_neg cj]
              rw [this]
            have tv := totF_take hf
            omega
          · have : totF (rdV i f (opDis f.1 1 V)).2.1.1 ≤ totF (opDis f.1 1 V).1.1 := by
              rw [r6]
              exact totF_sub (List.eraseIdx_sublist _ _)
            omega
          · rw [r6]
            exact Nat.le_trans (scnt_sub (List.eraseIdx_sublist _ _)) hsd
        · rw [if_neg cz]
          rw [if_neg cz] at r2 r6
          have p15 : 15 ≤ (rdV i f (opDis f.1 1 V)).1 := (rr_15 f.2.2.1 f.1 f.2.2.1.length (opDis f.1 1 V)).resolve_left cz
          have hlz : (rdV i f (opDis f.1 1 V)).2.1.1.length = i + 1 + l2.length := by
            rw [r6, List.length_set]
            omega
          have lcut : (f.2.2.1.take (rdV i f (opDis f.1 1 V)).1).length = (rdV i f (opDis f.1 1 V)).1 := by
            rw [List.length_take]
            omega
          have tz : totF (rdV i f (opDis f.1 1 V)).2.1.1 = totF ((opDis f.1 1 V).1.1.take i) + ((rdV i f (opDis f.1 1 V)).1 + totF l2) := by
            rw [r6, set_split hf2, totF_app, hl2]
            show _ + ((f.2.2.1.take (rdV i f (opDis f.1 1 V)).1).length + totF l2) = _
            rw [lcut]
          have tk : totF (V.1.1.take i) = totF ((opDis f.1 1 V).1.1.take i) := by
            have : (opDis f.1 1 V).1.1.take i = V.1.1.take i := by
              apply List.ext_getElem?
              intro j
              rw [List.getElem?_take, List.getElem?_take]
              by_cases cj : j < i
              · rw [if_pos cj, if_pos cj, etake j cj]
              · rw [if_neg cj, if_neg cj]
            rw [this]
          have tv := totF_take hf
          refine oiv_rd N t (i + 1) _ (by omega) (by omega) (by omega) ⟨⟨r1, r5 (by rw [e5]; exact hR), by rw [r2]; exact e2, ?_, ?_⟩, ?_, ⟨?_, ?_⟩, ?_, hst, hk2⟩
          · rw [r6]
            intro y hy
            rcases List.mem_or_eq_of_mem_set hy with z | z
            · exact hOd y z
            · obtain ⟨x, x1, x2, x3, x4, x5⟩ := hOd f (List.mem_of_getElem? hf2)
              rw [z]
              refine ⟨x, x1, x2, x3, ?_, x5⟩
              show (f.2.2.1.take _).length ≤ _
              omega
          · rw [r6]
            intro y hy
            rcases List.mem_or_eq_of_mem_set hy with z | z
            · exact h1d y z
            · rw [z]
              show 1 ≤ (f.2.2.1.take _).length
              omega
          · intro r hr
            rw [erow] at hr
            rw [← epos] at q1
            have get : ∀ j, j < i → (rdV i f (opDis f.1 1 V)).2.1.1[j]? = V.1.1[j]? := by
              intro j hj
              rw [r6, List.getElem?_set, if_neg (by omega)]
              exact etake j hj
            rcases q1 r hr with z | ⟨z1, z2, P, z3, z4⟩
            · exact rpi_mv (hRP r z) (by omega) get
            · refine ⟨z1, i, (f.1, f.2.1, f.2.2.1.take (rdV i f (opDis f.1 1 V)).1, f.2.2.2.1, f.2.2.2.2), P, by omega, ?_, z2.symm, h0, z3, ?_⟩
              · rw [r6, List.getElem?_set, if_pos rfl, if_pos (lt_of_some hf2)]
              · show _ ≤ (f.2.2.1.take _).length
                rw [lcut]
                exact z4
          · rw [r2, tz]
            rw [e5] at r4
            omega
          · omega
          · rw [r6, set_split hf2, scnt_app2, scnt_cons]
            have e9 : (opDis f.1 1 V).1.1 = (opDis f.1 1 V).1.1.take i ++ f :: (opDis f.1 1 V).1.1.drop (i + 1) := by rw [← drop_cons hf2, List.take_append_drop]
            have e10 := congrArg scnt e9
            rw [scnt_app2, scnt_cons] at e10
            have : ¬ (f.2.2.1.take (rdV i f (opDis f.1 1 V)).1).length < 12 := by omega
            show _ + ((if (f.2.2.1.take (rdV i f (opDis f.1 1 V)).1).length < 12 then 1 else 0) + _) ≤ n0
            rw [if_neg this]
            omega
    · have : i = V.1.1.length := by omega
      rw [rdF_end (by omega), ← this]
      exact h
