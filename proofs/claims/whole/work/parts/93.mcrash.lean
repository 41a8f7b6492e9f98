/-! the reference: crash -/
def lossOK : Nat → List AV → List AF → Prop
  | _, [], _ => True
  | left, p :: l, fs => left = 0 ∨ ((∃ x, x ∈ fs ∧ kyF p.1 p.2.1 x = true ∧ min left p.2.2.toNatClampNeg ≤ x.2.2.1.length) ∧ (0 < p.2.2.toNatClampNeg ∧ ¬ p.2.2 < 0) ∧ lossOK (left - min left p.2.2.toNatClampNeg) l (cutF p.1 p.2.1 (min left p.2.2.toNatClampNeg) fs))
theorem srt_cut {a b : Int32} {d : Nat} {fs : List AF} (h : SrtF fs) : SrtF (cutF a b d fs) := by
  unfold SrtF cutF
  rw [List.pairwise_map]
  refine h.imp (fun {f f'} hq => ?_)
  have e : ∀ f : AF, (if f.1 = a ∧ f.2.1 = b then (f.1, f.2.1, cut1 d f.2.2.1, f.2.2.2.1, f.2.2.2.2) else f).1 = f.1 ∧ (if f.1 = a ∧ f.2.1 = b then (f.1, f.2.1, cut1 d f.2.2.1, f.2.2.2.1, f.2.2.2.2) else f).2.1 = f.2.1 := by
    intro f
    split <;> exact ⟨rfl, rfl⟩
  rw [(e f).1, (e f').1, (e f).2, (e f').2]
  exact hq
theorem srt_uni {fs : List AF} {a b : Int32} {x y : AF} (h : SrtF fs) (hx : x ∈ fs) (hy : y ∈ fs) (kx : kyF a b x = true) (ky : kyF a b y = true) : x = y := by
  obtain ⟨i, hi⟩ := List.mem_iff_getElem?.mp hx
  obtain ⟨j, hj⟩ := List.mem_iff_getElem?.mp hy
  have e1 := srt_ky h hi kx
  have e2 := srt_ky h hj ky
  rw [e1] at hi
  rw [e2, hi] at hj
  exact Option.some.inj hj
section
variable {m : Nat} {g : Gh} {S : MS} {α : Type} {rs : List AR} {fs : List AF} {ps : List AV}
def Crashed (S S' : MS) (fs : List AF) : Prop := RepF S' fs ∧ (S'.1 12 = 0 ∧ S'.1 23 = 0 ∧ S'.1 33 = 0 ∧ S'.1 34 = 0 ∧ S'.1 35 = -1 ∧ S'.1 26 = -1) ∧ mfr [4, 8, 12, 23, 26, 33, 34, 35] [1, 2, 3, 4] S S'
theorem m_b115 {i : Int32} {S0 : MS} {Q : Int32 → MS → Prop} (hM : Mk m g) (hF : RepF S fs) (f0 : mfr [4, 8, 12, 23, 26, 33, 34, 35] [1, 2, 3, 4] S0 S) (hq : ∀ S', Crashed S0 S' fs → Q i S') : okM m g (X9_crash_b115 m i) S Q := by
  unfold X9_crash_b115
  have fr : mfr [12, 23, 26, 33, 34, 35] [] S (upI (upI (upI (upI (upI (upI S 12 0) 23 0) 33 0) 34 0) 35 (-1)) 26 (-1)) := mfr_tr (mfr_tr (mfr_tr (mfr_tr (mfr_tr (mfr_I (by decide)) (mfr_I (by decide))) (mfr_I (by decide))) (mfr_I (by decide))) (mfr_I (by decide))) (mfr_I (by decide))
  refine oM_pI hM (oM_pZ hM (Or.inl rfl) (oM_pI hM (oM_pI hM (oM_pI hM (oM_pI hM (oM_pu (hq _ ⟨?_, ⟨rfl, rfl, rfl, rfl, rfl, rfl⟩, ?_⟩)))))))
  · exact repF_fr hF fr (by decide) (by decide) (by decide) (by decide) (by decide) (by decide)
  · exact mfr_tr f0 (mfr_mono fr (by decide) (by decide))
theorem m_crash_loop {i : Int32} {Q : Int32 → MS → Prop} (S0 : MS) (hM : Mk m g) : ∀ (w n left : Nat) (S : MS) (fs : List AF), n < w → n ≤ ps.length → left ≤ 16384 → RepP S ps → RepF S (fs.filter neF) → SrtF fs → lossOK left (ps.take n).reverse fs → mfr [4, 8, 12, 23, 26, 33, 34, 35] [1, 2, 3, 4] S0 S → (∀ S', Crashed S0 S' ((losR left (ps.take n).reverse fs).filter neF) → Q i S') → okM m g (X9_crash_b58 w m i (nI left) (nI n - 1)) S Q := by
  intro w
  induction w with
  | zero => intro n left S fs h; omega
  | succ w ih =>
    intro n left S fs hw hn h16 hP hF hS hL f0 hq
    show okM m g (X9_crash_b58b (X9_crash_b58 w) m i (nI left) (nI n - 1)) S Q
    unfold X9_crash_b58b
    have hpl := hP.1.2
    cases n with
    | zero =>
      refine oM_itT (by decide) (m_b115 hM hF f0 (fun S' hc => hq S' ?_))
      rw [List.take_zero]
      exact hc
    | succ n =>
      have e1 : nI (n + 1) - 1 = nI n := nI_subN (a := n + 1) (b := 1) (by omega)
      rw [e1]
      obtain ⟨p, hp⟩ := some_of_lt (show n < ps.length by omega)
      have er : (ps.take (n + 1)).reverse = p :: (ps.take n).reverse := by
        rw [take_snoc hp, List.reverse_append]
        rfl
      rw [er] at hL hq
      refine oM_itF (fun q => absurd (nI_le (a := 0) (b := n) (by omega) (by omega)) (Int32.not_le.mpr q)) ?_
      by_cases c0 : left = 0
      · subst c0
        refine oM_itT (show nI 0 ≤ 0 by decide) (m_b115 hM hF f0 (fun S' hc => hq S' ?_))
        rw [losR_0]
        exact hc
      · refine oM_itF (nI_ge (a := 0) (b := left) (by omega) (by omega)) ?_
        rw [losR_cons, if_neg c0] at hq
        rcases hL with q | ⟨⟨x, hx, kx, lx⟩, ⟨s0, s1⟩, hL⟩
        · exact absurd q c0
        obtain ⟨n5, n6, n7⟩ := rp_n hP hp
        obtain ⟨sz, esz⟩ : ∃ sz, p.2.2.toNatClampNeg = sz := ⟨_, rfl⟩
        have epz : p.2.2 = nI sz := by rw [← esz]; exact nI_cl s1
        have hs31 : sz < 2 ^ 31 := by rw [← esz]; exact clamp_lt _
        rw [esz] at hq lx s0 hL
        have hd0 : 0 < min left sz := by omega
        have nx : neF x = true := decide_eq_true (by omega)
        have hxG : x ∈ fs.filter neF := List.mem_filter.mpr ⟨hx, nx⟩
        have hSG : SrtF (fs.filter neF) := List.Pairwise.filter _ hS
        obtain ⟨j, hj⟩ := List.mem_iff_getElem?.mp hxG
        obtain ⟨g1, g2⟩ := fndF_at hSG hj
        obtain ⟨k1, k2⟩ := of_decide_eq_true kx
        rw [k1, k2] at g1 g2
        refine oM_gR hM (oM_al (q := 7) hM rfl n7 (oM_bpu (oM_gR hM (oM_al (q := 5) hM rfl n5 (oM_gR hM (oM_al (q := 6) hM rfl n6 (oM_ck hM (m_fileAt hM hF hSG (fun y hy => ?_) (fun hno => ?_)))))))))
        · rw [epz, imn_nI (by omega) hs31, g2]
          refine oM_ck hM (m_loses hM hF hj rfl rfl lx (fun S' r1 f1 => oM_bpu ?_))
          have e2 : nI n + (-1) = nI n - 1 := (Int32.sub_eq_add_neg ..).symm
          rw [nI_subN (by omega), e2]
          have hU : ∀ f, f ∈ fs → kyF p.1 p.2.1 f = true → f.2.2.1 = x.2.2.1 := fun f hf kf => by rw [srt_uni hS hf hx kf kx]
          have st := cut1_step hU hd0 lx
          have R2 : RepF S' ((cutF p.1 p.2.1 (min left sz) fs).filter neF) := by
            refine repF_congr r1 ?_
            show (losM j (min left sz) x (fs.filter neF)).map pF = _
            refine Eq.trans ?_ st
            unfold losM
            by_cases cl : min left sz = x.2.2.1.length
            · rw [if_pos cl, if_pos cl, ← g2, era_fil hSG g1]
            · rw [if_neg cl, if_neg cl, ← g2, set_map hSG g1, k1, k2]
          exact ih n (left - min left sz) S' _ (by omega) (by omega) (by omega) (repP_fr hP f1 (by decide) (by decide) (by decide) (by decide)) R2 (srt_cut hS) hL (mfr_tr f0 (mfr_mono f1 (by decide) (by decide))) hq
        · rw [g1] at hno
          cases hno
end
