section
variable {n : Nat} {g g' : Gh} {α : Type} {Q : α → Gh → Prop}
def lastC (sv : List Nat) : Nat := sv.getLast?.getD 16
def insF (p : Nat) (f : AF) (fs : List AF) : List AF := fs.take p ++ f :: fs.drop p
def Ins (n : Nat) (g gi : Gh) (a b : Int32) (p d : Nat) : Prop := Dp n g gi 0 ∧ AvI n gi ∧ qL gi (n + 10) = (qL g (n + 10)).take p ++ d :: (qL g (n + 10)).drop p ∧ FV n gi = insF p (a, b, [], lastC (SV n g), 0) (FV n g) ∧ SV n gi = (SV n g).dropLast ∧ DSC n gi = DSC n g ∧ AIV n gi = AIV n g ∧ qL gi (n + 12) = qL g (n + 12) ∧ acn n gi = acn n g ∧ (∀ y, qk g y = 5 → (∀ x, x ∈ qL g (n + 11) → y ≠ x + 1) → qB gi y = qB g y) ∧ d ∉ qL g (n + 10) ∧ (d ∈ qL g (n + 11) ∨ qn g ≤ d)
/-- a list with one more in it -/
theorem nodup_ins {l : List Nat} {p d : Nat} (h : l.Nodup) (hd : d ∉ l) : (l.take p ++ d :: l.drop p).Nodup := by
  have : (l.take p ++ d :: l.drop p).Perm (d :: l) := by
    refine List.perm_middle.trans ?_
    rw [List.take_append_drop]
  exact this.symm.nodup (List.nodup_cons.mpr ⟨hd, h⟩)
theorem mem_ins {l : List Nat} {p d x : Nat} (h : x ∈ l.take p ++ d :: l.drop p) : x = d ∨ x ∈ l := by
  rw [List.mem_append, List.mem_cons] at h
  rcases h with q | q | q
  · exact Or.inr (List.mem_of_mem_take q)
  · exact Or.inl q
  · exact Or.inr (List.mem_of_mem_drop q)
theorem ins_of {a b : Int32} {p d c : Nat} {gi : Gh} (hC : Cs n g) (hD : DI n g) (hA : AvI n g) (hz : ∀ a, qk g a ≠ 0 → a < qn g) (hp : p ≤ (qL g (n + 10)).length) (hf : fra (ownD n g) g gi) (hacc : acc n g gi 0) (hdn : d ∉ qL g (n + 10)) (hdk : dOk n gi d) (hs11 : qL gi (n + 11) = (qL g (n + 11)).dropLast) (hd11 : d ∉ (qL g (n + 11)).dropLast) (h10 : qL gi (n + 10) = (qL g (n + 10)).take p ++ d :: (qL g (n + 10)).drop p) (h12 : qL gi (n + 12) = qL g (n + 12))
    (hi : ∀ j x, x ≠ d → qi gi j x = qi g j x) (hr : ∀ j x, x ≠ d → qr gi j x = qr g j x) (hB : ∀ x, x < qn g → x ≠ d + 1 → qB gi x = qB g x ∧ qC gi x = qC g x) (hk4 : ∀ x, x < qn g → qk gi x = qk g x)
    (hfd : fvw gi d = (a, b, [], c, 0)) (hc : c = lastC (SV n g)) (hsp : ∀ y, qk g y = 5 → (∀ x, x ∈ qL g (n + 11) → y ≠ x + 1) → y ≠ d + 1) (hd9 : d ≠ n + 9) (hdv : d ∉ qL g (n + 12)) (hds : d ∈ qL g (n + 11) ∨ qn g ≤ d) : Ins n g gi a b p d := by
  have hlt : ∀ x, x ∈ qL g (n + 10) ++ qL g (n + 11) → x < qn g ∧ x + 1 < qn g := fun x hx => by
    obtain ⟨b1, b2, b3, b4⟩ := hD.1 x hx
    exact ⟨hz x (by omega), hz _ (by omega)⟩
  have hold : ∀ x, x ∈ qL g (n + 10) ++ qL g (n + 11) → x ≠ d → fvw gi x = fvw g x ∧ qC gi (x + 1) = qC g (x + 1) := fun x hx hne => by
    obtain ⟨l1, l2⟩ := hlt x hx
    obtain ⟨e1, e2⟩ := hB (x + 1) l2 (by omega)
    refine ⟨?_, e2⟩
    unfold fvw
    rw [hi _ _ hne, hi _ _ hne, hi _ _ hne, e1, e2]
  have hac : acn n gi = acn n g := by
    rw [acn, hi _ _ (by omega)]
    rfl
  have h4lt : ∀ v, v ∈ qL g (n + 12) → v < qn g ∧ v ≠ d := fun v hv => ⟨hz v (by rw [hA.2.2.1 v hv]; decide), fun q => hdv (q ▸ hv)⟩
  refine ⟨⟨hf, hacc, ?_, ?_⟩, ⟨?_, ?_, ?_, ?_, ?_⟩, h10, ?_, ?_, ?_, ?_, h12, hac, ?_, hdn, hds⟩
  · intro x hx
    by_cases e : x = d
    · rw [e]
      exact hdk
    · have hx2 : x ∈ qL g (n + 10) ++ qL g (n + 11) := by
        rw [h10, hs11, List.mem_append] at hx
        rw [List.mem_append]
        rcases hx with q | q
        · rcases mem_ins q with q2 | q2
          · exact absurd q2 e
          · exact Or.inl q2
        · exact Or.inr ((List.dropLast_sublist _).subset q)
      obtain ⟨b1, b2, b3, b4⟩ := hD.1 x hx2
      obtain ⟨l1, l2⟩ := hlt x hx2
      exact ⟨by rw [hk4 x l1]; exact b1, by rw [hr _ _ e]; exact b2, by rw [hk4 _ l2]; exact b3, b4⟩
  · rw [h10, hs11]
    obtain ⟨n1, n2, n3⟩ := List.nodup_append.mp hD.2
    rw [List.nodup_append]
    refine ⟨nodup_ins n1 hdn, n2.sublist (List.dropLast_sublist _), ?_⟩
    intro x hx y hy
    rcases mem_ins hx with q | q
    · intro e
      exact hd11 (q ▸ e ▸ hy)
    · exact n3 x q y ((List.dropLast_sublist _).subset hy)
  · rw [hac, hi _ _ (by omega)]
    exact hA.1
  · rw [hac, h12]
    exact hA.2.1
  · intro v hv
    rw [h12] at hv
    rw [hk4 v (h4lt v hv).1]
    exact hA.2.2.1 v hv
  · rw [h12]
    exact hA.2.2.2.1
  · intro v hv
    rw [hac, h12] at hv
    have hvm := List.mem_of_mem_take hv
    rw [hr _ _ (h4lt v hvm).2, h10, List.mem_append, List.mem_cons]
    have := hA.2.2.2.2 v hv
    rw [← List.take_append_drop p (qL g (n + 10)), List.mem_append] at this
    rcases this with q | q
    · exact Or.inl q
    · exact Or.inr (Or.inr q)
  · unfold FV insF
    rw [h10, List.map_append, List.map_cons, hfd, hc, List.map_take, List.map_drop]
    have e : (qL g (n + 10)).map (fvw gi) = (qL g (n + 10)).map (fvw g) := List.map_congr_left (fun x hx => (hold x (List.mem_append_left _ hx) (fun q => hdn (q ▸ hx))).1)
    rw [e]
  · unfold SV
    rw [hs11, List.map_dropLast]
    rw [← List.map_dropLast, ← List.map_dropLast]
    exact List.map_congr_left (fun x hx => (hold x (List.mem_append_right _ ((List.dropLast_sublist _).subset hx)) (fun q => hd11 (q ▸ hx))).2)
  · unfold DSC
    rw [hi _ _ (by omega), hi _ _ (by omega), hi _ _ (by omega)]
  · unfold AIV
    rw [hac, h12]
    apply List.map_congr_left
    intro v hv
    have hvm := List.mem_of_mem_take hv
    have hm := hA.2.2.2.2 v hv
    have hne : qr g 300 v ≠ d := fun q => hdn (q ▸ hm)
    unfold avw
    rw [hr _ _ (h4lt v hvm).2, hi _ _ hne, hi _ _ hne, hi _ _ (h4lt v hvm).2]
  · intro y hy hyx
    exact (hB y (hz y (by omega)) (hsp y hy hyx)).1
def newD (g : Gh) (a b : Int32) : Gh := wI (wI (wR (wNB (wO g 7 4)) 700 (qn g) (qn g + 1)) 701 (qn g) a) 702 (qn g) b
section
variable {a b : Int32}
theorem nd_i : qi (newD g a b) = u2 (u2 (fun j a => if j / 100 = 7 ∧ a = qn g then 0 else qi g j a) 701 (qn g) a) 702 (qn g) b := rfl
theorem nd_r : qr (newD g a b) = u2 (fun j a => if j / 100 = 7 ∧ a = qn g then 0 else qr g j a) 700 (qn g) (qn g + 1) := rfl
theorem nd_k : qk (newD g a b) = va_up (va_up (qk g) (qn g) 8) (qn g + 1) 5 := rfl
theorem nd_B : qB (newD g a b) = va_up (qB g) (qn g + 1) [] := rfl
theorem nd_C : qC (newD g a b) = va_up (qC g) (qn g + 1) 16 := rfl
theorem nd_L : qL (newD g a b) = qL g := rfl
theorem nd_E : qE (newD g a b) = qE g := rfl
theorem nd_s : qs (newD g a b) = qs g + 4 + 18 := rfl
theorem nd_n : qn (newD g a b) = qn g + 1 + 2 := rfl
theorem nd_A : qA (newD g a b) = qA g := rfl
theorem nd_W : qW (newD g a b) = qW g := rfl
theorem nd_fra : fra (fun _ => False) g (newD g a b) := by
  refine ⟨?_, ?_, ?_, ?_⟩
  · rw [nd_n]
    omega
  · intro q hq
    rw [nd_k, vu_ne (by omega), vu_ne (by omega)]
  · intro q hq j h1 h2 h3
    rw [nd_r, u2_ne (by omega)]
    exact if_neg (by omega)
  · intro q hq _
    refine ⟨fun j => ?_, fun j => ?_, ⟨?_, ?_⟩, ⟨rfl, rfl⟩, rfl, rfl⟩
    · rw [nd_i, u2_ne (by omega), u2_ne (by omega)]
      exact if_neg (by omega)
    · rw [nd_r, u2_ne (by omega)]
      exact if_neg (by omega)
    · rw [nd_B, vu_ne (by omega)]
    · rw [nd_C, vu_ne (by omega)]
theorem nd_k1 : qk (newD g a b) (qn g) = 8 := by rw [nd_k, vu_ne (by omega), vu_eq]
theorem nd_k2 : qk (newD g a b) (qn g + 1) = 5 := by rw [nd_k, vu_eq]
theorem nd_ins {p : Nat} (hC : Cs n g) (hD : DI n g) (hA : AvI n g) (hz : ∀ a, qk g a ≠ 0 → a < qn g) (hE10 : (qL g (n + 10)).length ≤ qE g (n + 10)) (hp : p ≤ (qL g (n + 10)).length) (h1 : qL g (n + 11) = []) : Ins n g (wL (newD g a b) (n + 10) ((qL g (n + 10)).take p ++ qn g :: (qL g (n + 10)).drop p)) a b p (qn g) := by
  have hqn : ∀ q, q ∈ qL g (n + 10) ++ qL g (n + 11) → q < qn g := fun q hq => hz q (by rw [(hD.1 q hq).1]; decide)
  have hn9 : n + 21 < qn g := hz _ (by rw [cs_op hC]; decide)
  have hm : ∀ {l : List Nat}, (∀ q, q ∈ l → q < qn g) → qn g ∉ l := fun h q => Nat.lt_irrefl _ (h _ q)
  refine ins_of (c := 16) hC hD hA hz hp ?_ ?_ (hm (fun q hq => hqn q (List.mem_append_left _ hq))) ⟨nd_k1 (a := a) (b := b), ?_, nd_k2 (a := a) (b := b), by omega⟩ ?_ ?_ ?_ ?_ ?_ ?_ ?_ ?_ ?_ ?_ ?_ (by omega) ?_ (Or.inr (Nat.le_refl _))
  · exact fra_trans (P' := ownD n g) (fra_mono nd_fra (fun _ _ h => h.elim)) (fra_wL (Or.inr (Or.inr (Or.inr (Or.inr (Or.inl rfl)))))) (fun _ _ h => h)
  · have e3 := ecap_4 (c := qE g (n + 10)) (m := (qL g (n + 10)).length + 1) (by omega)
    have e4 : ((qL g (n + 10)).take p ++ qn g :: (qL g (n + 10)).drop p).length = (qL g (n + 10)).length + 1 := by
      simp only [List.length_append, List.length_cons, List.length_take, List.length_drop]
      omega
    obtain ⟨s1, m1, hs1, hm1, hs2, hm2⟩ : ∃ s1 m1 : Nat, qs (wL (newD g a b) (n + 10) ((qL g (n + 10)).take p ++ qn g :: (qL g (n + 10)).drop p)) = qs g + 22 + s1 ∧ qn (wL (newD g a b) (n + 10) ((qL g (n + 10)).take p ++ qn g :: (qL g (n + 10)).drop p)) = qn g + 3 + m1 ∧ s1 + 4 * qE g (n + 10) ≤ 4 * ecap (qE g (n + 10)) ((qL g (n + 10)).length + 1) ∧ m1 + qE g (n + 10) ≤ ecap (qE g (n + 10)) ((qL g (n + 10)).length + 1) := by
      refine ⟨if (qL g (n + 10)).length + 1 ≤ qE g (n + 10) then 0 else ecap (qE g (n + 10)) ((qL g (n + 10)).length + 1), if (qL g (n + 10)).length + 1 ≤ qE g (n + 10) then 0 else 1, ?_, ?_, e3.1, e3.2.1⟩
      · rw [p_qs_wL, nd_s, nd_E, e4]
      · rw [p_qn_wL, nd_n, nd_E, e4]
    have hl2 : qE (wL (newD g a b) (n + 10) ((qL g (n + 10)).take p ++ qn g :: (qL g (n + 10)).drop p)) (n + 10) = ecap (qE g (n + 10)) ((qL g (n + 10)).length + 1) := by
      rw [p_qE_wL, vu_eq, nd_E, e4]
    refine ⟨?_, fun hCE => ?_⟩
    · unfold acc2 rsum ccnt
      rw [hs1, hm1, hl2]
      simp only [p_qC_wL, p_qL_wL, p_qE_wL, nd_L, nd_E, nd_C]
      rw [vu_eq, vu_ne (by omega), vu_ne (by omega), vu_ne (by omega), vu_ne (by omega), vu_ne (by omega), vu_ne (by omega), vu_ne (by omega), vu_ne (by omega), vu_ne (by omega), vu_ne (by omega), vu_ne (by omega), vu_ne (by omega), vu_ne (by omega), vu_ne (by omega), e4]
      omega
    · have e5 := ecap_5 (c := qE g (n + 10)) (m := (qL g (n + 10)).length + 1)
      have c1 : ∀ k, k < 9 → qC (wL (newD g a b) (n + 10) ((qL g (n + 10)).take p ++ qn g :: (qL g (n + 10)).drop p)) (n + k) = qC g (n + k) := by
        intro k hk
        rw [p_qC_wL, nd_C, vu_ne (by omega)]
      have c2 : ∀ k, k ≠ 10 → qL (wL (newD g a b) (n + 10) ((qL g (n + 10)).take p ++ qn g :: (qL g (n + 10)).drop p)) (n + k) = qL g (n + k) := by
        intro k hk
        rw [p_qL_wL, vu_ne (by omega), nd_L]
      have c3 : ∀ k, k ≠ 10 → qE (wL (newD g a b) (n + 10) ((qL g (n + 10)).take p ++ qn g :: (qL g (n + 10)).drop p)) (n + k) = qE g (n + k) := by
        intro k hk
        rw [p_qE_wL, vu_ne (by omega), nd_E]
      have c4 : (qL (wL (newD g a b) (n + 10) ((qL g (n + 10)).take p ++ qn g :: (qL g (n + 10)).drop p)) (n + 10)).length = (qL g (n + 10)).length + 1 := by
        rw [p_qL_wL, vu_eq, e4]
      unfold CE at hCE ⊢
      rw [c1 1 (by omega), c1 3 (by omega), c1 5 (by omega), c1 7 (by omega), hl2, c4, c2 11 (by omega), c2 12 (by omega), c2 14 (by omega), c2 15 (by omega), c3 11 (by omega), c3 12 (by omega), c3 14 (by omega), c3 15 (by omega)]
      omega
  · rw [p_qr_wL, nd_r, u2_eq]
  · rw [p_qL_wL, vu_ne (by omega), nd_L, h1]
    rfl
  · rw [h1]
    simp
  · rw [p_qL_wL, vu_eq]
  · rw [p_qL_wL, vu_ne (by omega), nd_L]
  · intro j q hq
    rw [p_qi_wL, nd_i, u2_ne (by omega), u2_ne (by omega)]
    exact if_neg (by omega)
  · intro j q hq
    rw [p_qr_wL, nd_r, u2_ne (by omega)]
    exact if_neg (by omega)
  · intro q hq hne
    rw [p_qB_wL, p_qC_wL, nd_B, nd_C, vu_ne (by omega), vu_ne (by omega)]
    exact ⟨rfl, rfl⟩
  · intro q hq
    exact (nd_fra (a := a) (b := b)).2.1 q hq
  · unfold fvw
    rw [p_qi_wL, p_qB_wL, p_qC_wL, nd_i, nd_B, nd_C, vu_eq, vu_eq, u2_ne (by omega), u2_eq, u2_eq, u2_ne (by omega), u2_ne (by omega)]
    rw [if_pos ⟨by decide, rfl⟩]
  · unfold lastC SV
    rw [h1]
    rfl
  · intro q hq _ e
    have := hz q (by omega)
    omega
  · exact hm (fun q hq => hz q (by rw [hA.2.2.1 q hq]; decide))
def oldD (n : Nat) (g : Gh) (d : Nat) (a b : Int32) : Gh := wI (wI (wI (wX (wl g (n + 11) (qL g (n + 11)).dropLast) (d + 1) []) 703 d 0) 701 d a) 702 d b
theorem od_i {d : Nat} : qi (oldD n g d a b) = u2 (u2 (u2 (qi g) 703 d 0) 701 d a) 702 d b := rfl
theorem od_r {d : Nat} : qr (oldD n g d a b) = qr g := rfl
theorem od_k {d : Nat} : qk (oldD n g d a b) = qk g := rfl
theorem od_B {d : Nat} : qB (oldD n g d a b) = va_up (qB g) (d + 1) [] := rfl
theorem od_C {d : Nat} : qC (oldD n g d a b) = qC g := rfl
theorem od_L {d : Nat} : qL (oldD n g d a b) = va_up (qL g) (n + 11) (qL g (n + 11)).dropLast := rfl
theorem od_E {d : Nat} : qE (oldD n g d a b) = qE g := rfl
theorem od_s {d : Nat} : qs (oldD n g d a b) = qs g := rfl
theorem od_n {d : Nat} : qn (oldD n g d a b) = qn g := rfl
theorem od_fra {d : Nat} (hdk : dOk n g d) : fra (ownD n g) g (oldD n g d a b) := fra_trans (P' := ownD n g) (fra_trans (P' := ownD n g) (fra_trans (P' := ownD n g) (fra_trans (P' := ownD n g) (fra_wl (Or.inr (Or.inr (Or.inr (Or.inr (Or.inr (Or.inl rfl))))))) (fra_wX (Or.inr (Or.inr (Or.inl ⟨hdk.2.2.1, hdk.1⟩)))) (fun _ _ h => h)) (fra_wI (Or.inl hdk.1)) (fun _ _ h => h)) (fra_wI (Or.inl hdk.1)) (fun _ _ h => h)) (fra_wI (Or.inl hdk.1)) (fun _ _ h => h)
theorem od_ins {p d : Nat} (hC : Cs n g) (hD : DI n g) (hA : AvI n g) (hz : ∀ a, qk g a ≠ 0 → a < qn g) (hE10 : (qL g (n + 10)).length ≤ qE g (n + 10)) (hp : p ≤ (qL g (n + 10)).length) (elast : (qL g (n + 11)).getLast? = some d) : Ins n g (wL (oldD n g d a b) (n + 10) ((qL g (n + 10)).take p ++ d :: (qL g (n + 10)).drop p)) a b p d := by
  have hdm : d ∈ qL g (n + 11) := List.mem_of_getLast? elast
  have hdk := hD.1 d (List.mem_append_right _ hdm)
  obtain ⟨nd1, nd2, nd3⟩ := List.nodup_append.mp hD.2
  have ne11 : qL g (n + 11) ≠ [] := fun q => by rw [q] at hdm; cases hdm
  have esp : qL g (n + 11) = (qL g (n + 11)).dropLast ++ [d] := by
    have := List.dropLast_concat_getLast ne11
    rw [List.getLast?_eq_some_getLast ne11] at elast
    rw [Option.some.inj elast] at this
    exact this.symm
  have hlen : (qL g (n + 11)).length = (qL g (n + 11)).dropLast.length + 1 := by
    conv => lhs; rw [esp]
    simp
  refine ins_of (c := qC g (d + 1)) hC hD hA hz hp ?_ ?_ (fun q => nd3 d q d hdm rfl) ⟨by rw [p_qk_wL, od_k]; exact hdk.1, by rw [p_qr_wL, od_r]; exact hdk.2.1, by rw [p_qk_wL, od_k]; exact hdk.2.2.1, hdk.2.2.2⟩ ?_ ?_ ?_ ?_ ?_ ?_ ?_ ?_ ?_ ?_ ?_ (by have := hdk.2.2.2; omega) ?_ (Or.inl hdm)
  · exact fra_trans (P' := ownD n g) (od_fra hdk) (fra_wL (Or.inr (Or.inr (Or.inr (Or.inr (Or.inl rfl)))))) (fun _ _ h => h)
  · have e3 := ecap_4 (c := qE g (n + 10)) (m := (qL g (n + 10)).length + 1) (by omega)
    have e4 : ((qL g (n + 10)).take p ++ d :: (qL g (n + 10)).drop p).length = (qL g (n + 10)).length + 1 := by
      simp only [List.length_append, List.length_cons, List.length_take, List.length_drop]
      omega
    refine ⟨?_, fun hCE => ?_⟩
    · unfold acc2 rsum ccnt
      simp only [p_qs_wL, p_qn_wL, p_qC_wL, p_qL_wL, p_qE_wL, od_L, od_E, od_s, od_n, od_C]
      generalize (qL g (n + 10)).take p ++ d :: (qL g (n + 10)).drop p = l2 at e4 ⊢
      generalize (qL g (n + 11)).dropLast = l3 at *
      simp only [vup]
      by_cases hE : (qL g (n + 10)).length + 1 ≤ qE g (n + 10)
      · rw [if_pos hE, if_pos hE] at e3
        simp [e4, hE]
        omega
      · rw [if_neg hE, if_neg hE] at e3
        simp [e4, hE]
        omega
    · have e5 := ecap_5 (c := qE g (n + 10)) (m := (qL g (n + 10)).length + 1)
      unfold CE at hCE ⊢
      simp only [p_qC_wL, p_qL_wL, p_qE_wL, od_L, od_E, od_C]
      generalize (qL g (n + 10)).take p ++ d :: (qL g (n + 10)).drop p = l2 at e4 ⊢
      generalize (qL g (n + 11)).dropLast = l3 at *
      simp only [vup]
      simp [e4]
      omega
  · rw [p_qL_wL, vu_ne (by omega), od_L, vu_eq]
  · have := nd2
    rw [esp, List.nodup_append] at this
    intro q
    exact this.2.2 d q d (List.mem_singleton.mpr rfl) rfl
  · rw [p_qL_wL, vu_eq]
  · rw [p_qL_wL, vu_ne (by omega), od_L, vu_ne (by omega)]
  · intro j q hq
    rw [p_qi_wL, od_i, u2_ne (by omega), u2_ne (by omega), u2_ne (by omega)]
  · intro j q hq
    rw [p_qr_wL, od_r]
  · intro q hq hne
    rw [p_qB_wL, p_qC_wL, od_B, od_C, vu_ne (by omega)]
    exact ⟨rfl, rfl⟩
  · intro q hq
    rw [p_qk_wL, od_k]
  · unfold fvw
    rw [p_qi_wL, p_qB_wL, p_qC_wL, od_i, od_B, od_C, vu_eq, u2_ne (by omega), u2_eq, u2_eq, u2_ne (by omega), u2_ne (by omega), u2_eq]
  · unfold lastC SV
    rw [List.getLast?_map, elast]
    rfl
  · intro q hq hx e
    exact hx d hdm e
  · intro q
    have := hA.2.2.1 d q
    rw [hdk.1] at this
    omega
end
theorem ok_b31 {Q : Unit → Gh → Prop} {a b : Int32} {p c : Nat} {i x y : Int32} (hC : Cs n g) (hD : DI n g) (hA : AvI n g) (hi : i = nI p) (hp : p ≤ (qL g (n + 10)).length) (h10 : (qL g (n + 10)).length ≤ 30000)
    (hk : ∀ gi d, Ins n g gi a b p d → ok (X3_append_b60 (n + 9) c x y (some d)) gi Q) : ok (X3_append_b31 (n + 9) a b c x y i) g Q := by
  refine ok_nz (fun hz => ok_capL (cs_fl hC) (fun _ hE10 => ok_capL (cs_sp hC) (fun hl11 hE11 => ?_)))
  unfold X3_append_b31
  refine ok_ck (cs_disk hC) (ok_bd ?_)
  unfold X3_takeSpare
  refine ok_sp hC (ok_ck (cs_sp hC) (ok_lempty (cs_sp hC) ?_))
  by_cases h0 : (qL g (n + 11)).length = 0
  · rw [if_pos h0]
    have h1 : qL g (n + 11) = [] := List.length_eq_zero_iff.mp h0
    refine ok_itF (by decide) (ok_nw (by decide) (ok_bd ?_))
    unfold X4_init
    have kO : qk (wNB (wO g 7 4)) (qn g) = 8 := by
      rw [p_qk_wNB, vup, if_neg (by rw [p_qn_wO]; omega), p_qk_wO, vu_eq]
    refine ok_newB (ok_pR (c := 7) kO (ok_pu (ok_pu ?_)))
    refine ok_pI (c := 7) kO (ok_pI (c := 7) kO ?_)
    show ok _ (newD g a b) Q
    have c1 : Cs n (newD g a b) := cs_fra hC nd_fra hz
    refine ok_fl c1 (ok_ck (cs_fl c1) (ok_lins (cs_fl c1) hi (by rw [nd_L]; exact hp) (Or.inr (Or.inl nd_k1)) (by rw [nd_L]; exact h10) (hk _ (qn g) ?_)))
    rw [nd_L]
    exact nd_ins hC hD hA hz hE10 hp h1
  · rw [if_neg h0]
    have e1 : nI (qL g (n + 11)).length - 1 = nI ((qL g (n + 11)).length - 1) := by
      have := nI_1 ((qL g (n + 11)).length - 1)
      rw [show (qL g (n + 11)).length - 1 + 1 = (qL g (n + 11)).length by omega] at this
      rw [← this, Int32.add_sub_cancel]
    obtain ⟨d, hd⟩ := some_of_lt (show (qL g (n + 11)).length - 1 < (qL g (n + 11)).length by omega)
    have hdm : d ∈ qL g (n + 11) := List.mem_of_getElem? hd
    have hdk := hD.1 d (List.mem_append_right _ hdm)
    have edl : (qL g (n + 11)).eraseIdx ((qL g (n + 11)).length - 1) = (qL g (n + 11)).dropLast := List.eraseIdx_eq_dropLast (by omega)
    refine ok_itT rfl (ok_sp hC (ok_sp hC (ok_ck (cs_sp hC) (ok_lsize (cs_sp hC) (ok_ck (cs_sp hC) ?_)))))
    rw [e1]
    refine ok_lrem (cs_sp hC) rfl hd ?_
    rw [edl]
    refine ok_ck (c := 7) hdk.1 (ok_gR (c := 7) hdk.1 hdk.2.1 (by omega) (ok_ck (c := 4) hdk.2.2.1 (ok_bclr hdk.2.2.1 (ok_pI (c := 7) hdk.1 (ok_pu (ok_pI (c := 7) hdk.1 (ok_pI (c := 7) hdk.1 ?_)))))))
    show ok _ (oldD n g d a b) Q
    have c1 : Cs n (oldD n g d a b) := cs_fra hC (od_fra hdk) hz
    have l10 : qL (oldD n g d a b) (n + 10) = qL g (n + 10) := by rw [od_L]; exact vu_ne (by omega)
    refine ok_fl c1 (ok_ck (cs_fl c1) (ok_lins (cs_fl c1) hi (by rw [l10]; exact hp) (Or.inr (Or.inl (by rw [od_k]; exact hdk.1))) (by rw [l10]; exact h10) (hk _ d ?_)))
    rw [l10]
    exact od_ins hC hD hA hz hE10 hp (by rw [List.getLast?_eq_getElem?]; exact hd)
end
