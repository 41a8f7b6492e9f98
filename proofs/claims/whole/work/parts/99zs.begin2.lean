/-! room: a merge begins -/
def sm (φ : AR → Nat) : List AR → Nat
  | [] => 0
  | r :: rs => φ r + sm φ rs
theorem sm_app (φ : AR → Nat) : ∀ a b : List AR, sm φ (a ++ b) = sm φ a + sm φ b
  | [], b => by show sm φ b = 0 + sm φ b; omega
  | r :: a, b => by
    have := sm_app φ a b
    show φ r + sm φ (a ++ b) = φ r + sm φ a + sm φ b
    omega
theorem sm_ins (φ : AR → Nat) (r : AR) (ms : List AR) : sm φ (insA r ms) = φ r + sm φ ms := by
  unfold insA
  have e := congrArg (sm φ) (List.take_append_drop (posT ms r ms.length) ms)
  rw [sm_app] at e
  rw [sm_app]
  show sm φ _ + (φ r + sm φ _) = _
  omega
theorem sm_fold (φ : AR → Nat) : ∀ rs ms : List AR, sm φ (rs.foldl (fun ms r => insA r ms) ms) = sm φ rs + sm φ ms
  | [], ms => by show sm φ ms = 0 + sm φ ms; omega
  | r :: rs, ms => by
    have h1 := sm_fold φ rs (insA r ms)
    have h2 := sm_ins φ r ms
    show sm φ (rs.foldl (fun ms r => insA r ms) (insA r ms)) = φ r + sm φ rs + sm φ ms
    omega
theorem sm_srt (φ : AR → Nat) (rs : List AR) : sm φ (srtA rs) = sm φ rs := by
  have := sm_fold φ rs []
  unfold srtA
  rw [this]
  rfl
def ecn (r : AR) : Nat := 14 + r.1.length
theorem pk_ge (fm : Nat) : ∀ (l : List AR) (o : Option Nat), sm rcn l + sm ecn l ≤ pk fm l o
  | [], _ => Nat.le_refl _
  | r :: l, none => by
    have := pk_ge fm l (some (rcn r))
    show rcn r + sm rcn l + (14 + r.1.length + sm ecn l) ≤ 8 + (rcn r + 14 + r.1.length) + pk fm l (some (rcn r))
    omega
  | r :: l, some s => by
    unfold pk
    split
    · have := pk_ge fm l (some (s + rcn r))
      show rcn r + sm rcn l + (14 + r.1.length + sm ecn l) ≤ _
      omega
    · have := pk_ge fm l (some (rcn r))
      show rcn r + sm rcn l + (14 + r.1.length + sm ecn l) ≤ _
      omega
theorem xd_all {li : Int32} : ∀ {rs : List AR}, (∀ r, r ∈ rs → r.2.1 < li) → xd li rs = sm rcn rs
  | [], _ => rfl
  | r :: rs, h => by
    have := xd_all (rs := rs) (fun x hx => h x (List.mem_cons_of_mem _ hx))
    show (if r.2.1 < li then rcn r else 0) + xd li rs = rcn r + sm rcn rs
    rw [if_pos (h r List.mem_cons_self)]
    omega
/-- sizes, key and value -/
theorem sm_sz : ∀ {rs : List AR}, (∀ r, r ∈ rs → 1 ≤ r.1.length ∧ rcn r ≤ 14 + r.1.length + 64) → sm rcn rs ≤ sm ecn rs + 64 * rs.length ∧ 15 * sm rcn rs ≤ 79 * sm ecn rs
  | [], _ => ⟨Nat.le_refl _, Nat.le_refl _⟩
  | r :: rs, h => by
    obtain ⟨h1, h2⟩ := sm_sz (rs := rs) (fun x hx => h x (List.mem_cons_of_mem _ hx))
    obtain ⟨h3, h4⟩ := h r List.mem_cons_self
    show rcn r + sm rcn rs ≤ 14 + r.1.length + sm ecn rs + 64 * (rs.length + 1) ∧ 15 * (rcn r + sm rcn rs) ≤ 79 * (14 + r.1.length + sm ecn rs)
    omega
theorem rel_sz {t : Nat} {C : Int} {V : VC} {S : MS} {ps : List AV} (h : RelB t C V S ps) : ∀ r, r ∈ V.2.1 → 1 ≤ r.1.length ∧ rcn r ≤ 14 + r.1.length + 64 := by
  intro r hr
  obtain ⟨h1, x, P, W, _, _, h2, h3, _⟩ := h.1.2.1.2.1 r hr
  refine ⟨h1, ?_⟩
  unfold rcn
  rw [h2, nI_clamp (by omega)]
  omega
/-- a merge that begins, or nothing -/
theorem e_mbeg (V : VC) : (Hm V (sMBeg V).2.1 ∨ ((V.2.2.2.2.1.1 ≠ 0 ∧ V.2.2.1.1 = 0 ∧ ¬ fcnt V.1.2.2.2.2.2 0 V.1.1 = 0) ∧ (sMBeg V).2.1 = sStart (nedV V) (si1109 (-1) V))) ∧ tpV (sMBeg V).2.1 = tpV V ∧ (sMBeg V).2.2 = 0 := by
  unfold sMBeg
  split
  · exact ⟨Or.inl hm_rfl, rfl, rfl⟩
  · rename_i h1
    split
    · exact ⟨Or.inl hm_rfl, rfl, rfl⟩
    · rename_i h2
      split
      · exact ⟨Or.inl hm_rfl, rfl, rfl⟩
      · exact ⟨Or.inr ⟨⟨fun q => h1 (Or.inl q), Classical.not_not.mp (fun q => h1 (Or.inr q)), h2⟩, rfl⟩, rfl, rfl⟩
section
variable {t t' : Nat} {V : VC} {S S' : MS} {ps ps' : List AV} {C' : Int}
def nedN (V : VC) : Nat := 8 + 4 * (dNum V.1.1).length + pk V.1.2.2.2.2.1.toNatClampNeg (srtA V.2.1) none
theorem mb_facts (h : Rel t V S ps) (h' : RelB t' C' (sStart (nedV V) (si1109 (-1) V)) S' ps') : Gr (sStart (nedV V) (si1109 (-1) V)) = 2 * nedN V + 2 * sm rcn V.2.1 ∧ totF V.1.1 + nedN V ≤ 16384 ∧ sm rcn V.2.1 + sm ecn V.2.1 + 8 + 4 * (dNum V.1.1).length ≤ nedN V ∧ sm rcn V.2.1 ≤ sm ecn V.2.1 + 64 * V.2.1.length ∧ 15 * sm rcn V.2.1 ≤ 79 * sm ecn V.2.1 ∧ 15 * V.2.1.length ≤ totF V.1.1 ∧ Lam (sStart (nedV V) (si1109 (-1) V)) = 0 := by
  have hn := (need_eq h).1
  have hM := m1_of h' rfl rfl
  obtain ⟨a1, a2, a3, a4, _, a6, ms, nl, os, R, _, _, b7, b8, b9, b10, b11⟩ := hM
  have b8 : nedV V = nI R := b8
  have b10 : ((totF V.1.1 + R : Nat) : Int) ≤ V.1.2.2.2.1.toInt := b10
  have f4 := h.1.1.2.2.2.1
  have hpk : nedN V < 2 ^ 31 := by
    unfold nedN
    have h1 := pkk_le V.1.2.2.2.2.1.toNatClampNeg (srtA V.2.1) none (fun r hr => by
      have hr := srtA_mem.mp hr
      have := rel_rcb h hr
      omega)
    rw [srtA_len] at h1
    have h2 := h.2.1.2.2.2.2.1.1.2
    have h3 := h.1.1.2.2.1
    have h4 := dNum_len (fs := V.1.1)
    omega
  have hR : R = nedN V := nI_inj2 (b8.symm.trans hn) (by omega) hpk
  have hs := sm_sz (rel_sz h)
  have hp := pk_ge V.1.2.2.2.2.1.toNatClampNeg (srtA V.2.1) none
  rw [sm_srt, sm_srt] at hp
  refine ⟨?_, by omega, by unfold nedN; omega, hs.1, hs.2, h.1.2.1.2.2.1, ?_⟩
  · unfold Gr
    rw [if_pos ⟨rfl, rfl⟩]
    show 2 * (nedV V).toNatClampNeg + 2 * xd V.1.2.2.2.2.2 V.2.1 = _
    rw [hn, nI_clamp (show 8 + 4 * (dNum V.1.1).length + pk V.1.2.2.2.2.1.toNatClampNeg (srtA V.2.1) none < 2 ^ 31 from hpk), xd_all (fun r hr => by
      rw [Int32.lt_iff_toInt_lt]
      exact (rel_rcb h hr).2.2.2.2)]
    rfl
  · show lamF (-1) V.1.1 + lamF (-1) V.1.1 = 0
    rw [lamF_m1 (fun f hf => (h.1.1.2.1 f hf).2.1.1)]
theorem gr_first (h : Rel t V S ps) (h' : RelB t' C' (sStart (nedV V) (si1109 (-1) V)) S' ps') : Gr (sStart (nedV V) (si1109 (-1) V)) ≤ 52009 := by
  obtain ⟨h1, h2, h3, h4, h5, h6, _⟩ := mb_facts h h'
  omega
end
