/-! the next row by number, place and key -/
def oI (o : Option Nat) : Int32 := match o with
  | none => -1
  | some j => nI j
def nbS (rs : List AR) (l : Int32) (o : Option Nat) (i : Nat) (best : Option Nat) : Option Nat := match rs[i]? with
  | none => best
  | some r => if r.2.1 < l ∧ (∀ j, o = some j → ahd rs j i = true) ∧ (∀ b, best = some b → ahd rs i b = true) then some i else best
def nbR (rs : List AR) (l : Int32) (o : Option Nat) : Nat → Nat → Option Nat → Option Nat
  | 0, _, best => best
  | m + 1, i, best => nbR rs l o m (i + 1) (nbS rs l o i best)
section
variable {n : Nat} {g g' : Gh} {α : Type} {Q : α → Gh → Prop}
theorem oI_neg {o : Option Nat} (h : ∀ j, o = some j → j < 2 ^ 31) : oI o < 0 ↔ o = none := by
  cases o with
  | none => exact ⟨fun _ => rfl, fun _ => by decide⟩
  | some j => exact ⟨fun q => absurd q (nI_pos (h j rfl)), fun q => by cases q⟩
theorem next_loop {l : Int32} {o : Option Nat} (hC : Cs n g) (hR : RI n g) (h60 : (qL g (n + 14)).length ≤ 60000) (ho : ∀ j, o = some j → j < (RV n g).length) {Q : Int32 → Gh → Prop} : ∀ (m i : Nat) (best : Option Nat), (RV n g).length - i < m → i ≤ (RV n g).length → (∀ b, best = some b → b < (RV n g).length) → Q (oI (nbR (RV n g) l o ((RV n g).length - i) i best)) g → ok (X2_nextBelow_b5 m (n + 13) l (oI o) (oI best) (nI i)) g Q := by
  intro m
  induction m with
  | zero => intro i best h; omega
  | succ m ih =>
    intro i best hm hi hb hq
    show ok (X2_nextBelow_b5b (X2_nextBelow_b5 m) (n + 13) l (oI o) (oI best) (nI i)) g Q
    unfold X2_nextBelow_b5b
    refine ok_rsz hC ?_
    have hlen := rv_len (n := n) (g := g)
    by_cases e : i < (qL g (n + 14)).length
    · obtain ⟨r, hr⟩ := some_of_lt e
      have hrv := rv_at hr
      have hrk := ri_at hR hr
      refine ok_itF (nI_ge e (by omega)) ?_
      rw [show (RV n g).length - i = ((RV n g).length - (i + 1)) + 1 by omega] at hq
      have hq : Q (oI (nbR (RV n g) l o ((RV n g).length - (i + 1)) (i + 1) (nbS (RV n g) l o i best))) g := hq
      have next : nbS (RV n g) l o i best = best → ok (X2_nextBelow_b79 (X2_nextBelow_b5 m) (n + 13) l (oI o) (oI best) (nI i)) g Q := by
        intro e5
        rw [e5] at hq
        unfold X2_nextBelow_b79
        rw [nI_1]
        exact ih (i + 1) best (by omega) (by omega) hb hq
      have take1 : nbS (RV n g) l o i best = some i → ok (X2_nextBelow_b76 (X2_nextBelow_b5 m) (n + 13) l (oI o) (nI i)) g Q := by
        intro e5
        rw [e5] at hq
        unfold X2_nextBelow_b76 X2_nextBelow_b79
        rw [nI_1]
        exact ih (i + 1) (some i) (by omega) (by omega) (fun b hb => by cases hb; omega) hq
      have eS : nbS (RV n g) l o i best = if qi g 1001 r < l ∧ (∀ j, o = some j → ahd (RV n g) j i = true) ∧ (∀ b, best = some b → ahd (RV n g) i b = true) then some i else best := by
        unfold nbS
        rw [hrv]
        rfl
      have b36 : ∀ s0 : Int32, (s0 = 0 ↔ ¬ ∀ j, o = some j → ahd (RV n g) j i = true) → ok (X2_nextBelow_b36 (X2_nextBelow_b5 m) (n + 13) l (oI o) (oI best) (nI i) s0) g Q := by
        intro s0 hs0
        unfold X2_nextBelow_b36
        refine ok_rget hC hR rfl hr (fun _ => ok_gI hrk.1 rfl ?_)
        by_cases c1 : qi g 1001 r < l
        · refine ok_itF (Int32.not_le.mpr c1) ?_
          by_cases c2 : s0 = 0
          · exact ok_itT c2 (next (by rw [eS, if_neg (fun q => (hs0.mp c2) q.2.1)]))
          · have c2' : ∀ j, o = some j → ahd (RV n g) j i = true := Classical.not_not.mp (fun q => c2 (hs0.mpr q))
            refine ok_itF c2 ?_
            cases best with
            | none => exact ok_itT (by decide) (take1 (by rw [eS, if_pos ⟨c1, c2', fun b q => by cases q⟩]))
            | some b =>
              have hb1 := hb b rfl
              refine ok_itF (nI_pos (by omega)) (ok_ck (cs_dir hC) (ok_isAhead hC hR (by omega) hb1 ?_))
              cases c3 : ahd (RV n g) i b with
              | true => exact ok_itF (by decide) (take1 (by rw [eS, if_pos ⟨c1, c2', fun b' q => by cases q; exact c3⟩]))
              | false => exact ok_itT rfl (next (by rw [eS, if_neg (fun q => by have := q.2.2 b rfl; rw [c3] at this; cases this)]))
        · exact ok_itT (Int32.not_lt.mp c1) (next (by rw [eS, if_neg (fun q => c1 q.1)]))
      cases o with
      | none =>
        refine ok_itT (by decide) ?_
        unfold X2_nextBelow_b31
        exact b36 1 ⟨fun q => absurd q (by decide), fun q => absurd (fun j h => by cases h) q⟩
      | some j =>
        have hj := ho j rfl
        refine ok_itF (nI_pos (by omega)) (ok_ck (cs_dir hC) (ok_isAhead hC hR hj (by omega) ?_))
        cases c3 : ahd (RV n g) j i with
        | true =>
          refine ok_itF (by decide) ?_
          unfold X2_nextBelow_b31
          exact b36 1 ⟨fun q => absurd q (by decide), fun q => absurd (fun j' h => by cases h; exact c3) q⟩
        | false => exact ok_itT rfl (b36 0 ⟨fun _ q => (by have := q j rfl; rw [c3] at this; cases this), fun _ => rfl⟩)
    · have e2 : i = (qL g (n + 14)).length := by omega
      rw [show (RV n g).length - i = 0 by omega] at hq
      subst e2
      exact ok_itT (nI_le (Nat.le_refl _) (by omega)) (ok_pu hq)
/-- the next one behind o -/
def nxB (rs : List AR) (l : Int32) (o : Option Nat) : Option Nat := nbR rs l o rs.length 0 none
theorem ok_nextBelow {l : Int32} {o : Option Nat} {x : Int32} {k : Int32 → M α} (hC : Cs n g) (hR : RI n g) (hx : x = oI o) (ho : ∀ j, o = some j → j < (RV n g).length) (hk : ok (k (oI (nxB (RV n g) l o))) g Q) : ok (bd (X2_nextBelow (n + 13) l x) k) g Q := by
  subst hx
  refine ok_rlen hC (fun h60 => ok_bd (ok_bpu ?_))
  have : FU = 1000000 := rfl
  have hlen := rv_len (n := n) (g := g)
  exact next_loop hC hR h60 ho FU 0 none (by omega) (Nat.zero_le _) (fun b h => by cases h) hk
theorem nbR_lt {rs : List AR} {l : Int32} {o : Option Nat} : ∀ (m i : Nat) (best : Option Nat), (∀ b, best = some b → b < rs.length) → ∀ b, nbR rs l o m i best = some b → b < rs.length
  | 0, i, best, h => h
  | m + 1, i, best, h => by
    refine nbR_lt m (i + 1) (nbS rs l o i best) ?_
    intro b hb
    unfold nbS at hb
    split at hb
    · exact h b hb
    · rename_i r hr
      split at hb
      · cases hb
        exact lt_of_some hr
      · exact h b hb
theorem nxB_lt {rs : List AR} {l : Int32} {o : Option Nat} {b : Nat} (h : nxB rs l o = some b) : b < rs.length := nbR_lt _ _ _ (fun b h => by cases h) b h
/-! what one part's calls leave of the other's -/
theorem keepR {P : Nat → Prop} (hC : Cs n g) (hR : RI n g) (hf : fra P g g') (hz : ∀ a, qk g a ≠ 0 → a < qn g) (hP : ∀ a, ownR n g a → ¬ P a) : RI n g' ∧ RV n g' = RV n g ∧ qL g' (n + 14) = qL g (n + 14) ∧ qL g' (n + 15) = qL g (n + 15) := by
  have l14 : qL g' (n + 14) = qL g (n + 14) := (hf.2.2.2 _ (hz _ (by rw [cs_rl hC]; decide)) (hP _ (Or.inr (Or.inr (Or.inl rfl))))).2.2.2.1.1
  have l15 : qL g' (n + 15) = qL g (n + 15) := (hf.2.2.2 _ (hz _ (by rw [cs_rs hC]; decide)) (hP _ (Or.inr (Or.inr (Or.inr rfl))))).2.2.2.1.1
  have key : ∀ r, r ∈ qL g (n + 14) ++ qL g (n + 15) → rOk n g' r ∧ rvw g' r = rvw g r := by
    intro r hr
    obtain ⟨b1, b2, b3, b4, b5⟩ := hR.1 r hr
    have lr := hz r (by omega)
    have lr1 := hz (r + 1) (by omega)
    have f1 := hf.2.2.2 r lr (hP r (Or.inl b1))
    have f2 := hf.2.2.2 (r + 1) lr1 (hP _ (Or.inr (Or.inl ⟨b3, b1⟩)))
    refine ⟨⟨(hf.2.1 r lr).trans b1, (f1.2.1 _).trans b2, (hf.2.1 _ lr1).trans b3, b4, f2.2.2.1.2.trans b5⟩, ?_⟩
    unfold rvw
    rw [f1.1, f1.1, f1.1, f1.1, f2.2.2.1.1]
  refine ⟨⟨fun r hr => ?_, by rw [l14, l15]; exact hR.2⟩, ?_, l14, l15⟩
  · rw [l14, l15] at hr
    exact (key r hr).1
  · unfold RV
    rw [l14]
    exact List.map_congr_left (fun r hr => (key r (List.mem_append_left _ hr)).2)
theorem keepD {P : Nat → Prop} (hC : Cs n g) (hD : DI n g) (hA : AvI n g) (hf : fra P g g') (hz : ∀ a, qk g a ≠ 0 → a < qn g) (hP : ∀ a, ownD n g a → ¬ P a) : DI n g' ∧ AvI n g' ∧ FV n g' = FV n g ∧ SV n g' = SV n g ∧ AIV n g' = AIV n g ∧ DSC n g' = DSC n g ∧ (qL g' (n + 10) = qL g (n + 10) ∧ qL g' (n + 11) = qL g (n + 11) ∧ qL g' (n + 12) = qL g (n + 12) ∧ acn n g' = acn n g) ∧ ∀ d, d ∈ qL g (n + 10) → fvw g' d = fvw g d := by
  have h9 : n + 9 < qn g := hz _ (by rw [cs_disk hC]; decide)
  have i9 := (hf.2.2.2 _ h9 (hP _ (Or.inr (Or.inr (Or.inr (Or.inl rfl)))))).1
  have l10 : qL g' (n + 10) = qL g (n + 10) := (hf.2.2.2 _ (hz _ (by rw [cs_fl hC]; decide)) (hP _ (Or.inr (Or.inr (Or.inr (Or.inr (Or.inl rfl))))))).2.2.2.1.1
  have l11 : qL g' (n + 11) = qL g (n + 11) := (hf.2.2.2 _ (hz _ (by rw [cs_sp hC]; decide)) (hP _ (Or.inr (Or.inr (Or.inr (Or.inr (Or.inr (Or.inl rfl)))))))).2.2.2.1.1
  have l12 : qL g' (n + 12) = qL g (n + 12) := (hf.2.2.2 _ (hz _ (by rw [cs_av hC]; decide)) (hP _ (Or.inr (Or.inr (Or.inr (Or.inr (Or.inr (Or.inr rfl)))))))).2.2.2.1.1
  have key : ∀ d, d ∈ qL g (n + 10) ++ qL g (n + 11) → dOk n g' d ∧ fvw g' d = fvw g d := by
    intro d hd
    obtain ⟨b1, b2, b3, b4⟩ := hD.1 d hd
    have ld := hz d (by omega)
    have ld1 := hz (d + 1) (by omega)
    have f1 := hf.2.2.2 d ld (hP d (Or.inl b1))
    have f2 := hf.2.2.2 (d + 1) ld1 (hP _ (Or.inr (Or.inr (Or.inl ⟨b3, b1⟩))))
    refine ⟨⟨(hf.2.1 d ld).trans b1, (f1.2.1 _).trans b2, (hf.2.1 _ ld1).trans b3, b4⟩, ?_⟩
    unfold fvw
    rw [f1.1, f1.1, f1.1, f2.2.2.1.1, f2.2.2.1.2]
  have hac : acn n g' = acn n g := by
    unfold acn
    rw [i9]
  have kv : ∀ v, v ∈ qL g (n + 12) → qk g' v = 4 ∧ qr g' 300 v = qr g 300 v ∧ qi g' 301 v = qi g 301 v := by
    intro v hv
    have k4 := hA.2.2.1 v hv
    have lv := hz v (by omega)
    have f1 := hf.2.2.2 v lv (hP v (Or.inr (Or.inl k4)))
    exact ⟨(hf.2.1 v lv).trans k4, f1.2.1 _, f1.1 _⟩
  refine ⟨⟨fun d hd => ?_, by rw [l10, l11]; exact hD.2⟩, ⟨?_, ?_, ?_, ?_, ?_⟩, ?_, ?_, ?_, ?_, ⟨l10, l11, l12, hac⟩, fun d hd => (key d (List.mem_append_left _ hd)).2⟩
  · rw [l10, l11] at hd
    exact (key d hd).1
  · rw [i9, hac]
    exact hA.1
  · rw [hac, l12]
    exact hA.2.1
  · intro v hv
    rw [l12] at hv
    exact (kv v hv).1
  · rw [l12]
    exact hA.2.2.2.1
  · intro v hv
    rw [hac, l12] at hv
    rw [(kv v (List.mem_of_mem_take hv)).2.1, l10]
    exact hA.2.2.2.2 v hv
  · unfold FV
    rw [l10]
    exact List.map_congr_left (fun d hd => (key d (List.mem_append_left _ hd)).2)
  · unfold SV
    rw [l11]
    exact List.map_congr_left (fun d hd => congrArg (fun v : AF => v.2.2.2.1) (key d (List.mem_append_right _ hd)).2)
  · unfold AIV
    rw [hac, l12]
    apply List.map_congr_left
    intro v hv
    have h1 := kv v (List.mem_of_mem_take hv)
    have h2 := (key _ (List.mem_append_left _ (hA.2.2.2.2 v hv))).2
    have h3 : qi g' 701 (qr g 300 v) = qi g 701 (qr g 300 v) := congrArg (fun v : AF => v.1) h2
    have h4 : qi g' 702 (qr g 300 v) = qi g 702 (qr g 300 v) := congrArg (fun v : AF => v.2.1) h2
    unfold avw
    rw [h1.2.1, h1.2.2, h3, h4]
  · unfold DSC
    rw [i9, i9, i9]
theorem ownDR {a : Nat} (hC : Cs n g) (h : ownD n g a) : ¬ ownR n g a := by
  intro q
  have c9 := cs_disk hC
  have c10 := cs_fl hC
  have c11 := cs_sp hC
  have c12 := cs_av hC
  have c14 := cs_rl hC
  have c15 := cs_rs hC
  unfold ownD at h
  unfold ownR at q
  rcases h with h | h | ⟨h, h2⟩ | h | h | h | h
  · rcases q with q | ⟨q, q2⟩ | q | q
    · omega
    · omega
    · subst q; omega
    · subst q; omega
  · rcases q with q | ⟨q, q2⟩ | q | q
    · omega
    · omega
    · subst q; omega
    · subst q; omega
  · rcases q with q | ⟨q, q2⟩ | q | q
    · omega
    · omega
    · subst q; omega
    · subst q; omega
  · subst h
    rcases q with q | ⟨q, q2⟩ | q | q <;> omega
  · subst h
    rcases q with q | ⟨q, q2⟩ | q | q <;> omega
  · subst h
    rcases q with q | ⟨q, q2⟩ | q | q <;> omega
  · subst h
    rcases q with q | ⟨q, q2⟩ | q | q <;> omega
end
