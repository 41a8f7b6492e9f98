/-! the reference: a file's numbers; bytes of a merge -/
section
variable {m : Nat} {g : Gh} {S : MS} {α : Type} {rs : List AR} {fs : List AF} {ps : List AV}
/-- the bytes of one file among the pieces -/
def pfs (a b : Int32) (c : Int32) (ps : List AV) : Int32 := ps.foldl (fun c p => if p.1 = a ∧ p.2.1 = b then c + p.2.2 else c) c
theorem m_file {f w : Int32} {k : Int32 → M α} {Q : α → MS → Prop} (hM : Mk m g) (hF : RepF S fs) (hP : RepP S ps) (h : okM m g (k (match oat fs f with | none => -1 | some x => if w = 0 then x.1 else if w = 1 then x.2.1 else if w = 2 then nI x.2.2.1.length else if w = 3 then pfs x.1 x.2.1 0 ps else -1)) (upI S 0 0) Q) : okM m g (bd (X9_file m f w) k) S Q := by
  refine oM_bd ?_
  unfold X9_file
  have hl := hF.1.2.2.2
  have hpl := hP.1.2
  have F1 : RepF (upI S 0 0) fs := repF_fr hF (mfr_I (J := [0]) (K := []) (by decide)) (by decide) (by decide) (by decide) (by decide) (by decide) (by decide)
  have P1 : RepP (upI S 0 0) ps := repP_fr hP (mfr_I (J := [0]) (K := []) (by decide)) (by decide) (by decide) (by decide) (by decide)
  refine oM_pI hM ?_
  rcases oat_cases fs f (by omega) with ⟨c, e⟩ | ⟨c, c2, e⟩ | ⟨j, x, ej, hj, e⟩
  · rw [e] at h
    exact oM_itT c (oM_pu h)
  · rw [e] at h
    refine oM_itF c (oM_gI hM ?_)
    rw [F1.1.1]
    exact oM_itF (Int32.not_lt.mpr c2) (oM_pu h)
  · rw [e] at h
    dsimp only at h
    have lj := lt_of_some hj
    obtain ⟨n1, n2, n3⟩ := rf_n F1 hj
    subst ej
    refine oM_itF (fun q => absurd (nI_le (a := 0) (b := j) (by omega) (by omega)) (Int32.not_le.mpr q)) (oM_gI hM ?_)
    rw [F1.1.1]
    refine oM_itT (Int32.not_le.mp (nI_ge lj (by omega))) ?_
    have loop : ∀ (u i : Nat) (c : Int32), ps.length - i < u → i ≤ ps.length → okM m g (k (if w = 0 then x.1 else if w = 1 then x.2.1 else if w = 2 then nI x.2.2.1.length else if w = 3 then pfs x.1 x.2.1 c (ps.drop i) else -1)) (upI S 0 0) Q → okM m g (X9_file_b24 u m (nI j) w c (nI i)) (upI S 0 0) (fun v S1 => okM m g (k v) S1 Q) := by
      intro u
      induction u with
      | zero => intro i c h; omega
      | succ u ih =>
        intro i c hw hi hq
        show okM m g (X9_file_b24b (X9_file_b24 u) m (nI j) w c (nI i)) _ _
        unfold X9_file_b24b X9_file_b76 X9_file_b77
        refine oM_gI hM ?_
        rw [P1.1.1]
        by_cases cc : i < ps.length
        · obtain ⟨p, hp⟩ := some_of_lt cc
          obtain ⟨p5, p6, p7⟩ := rp_n P1 hp
          rw [drop_cons hp] at hq
          have skip : ¬ (p.1 = x.1 ∧ p.2.1 = x.2.1) → okM m g (bd (pu (c + 0)) (fun x1 => X9_file_b24 u m (nI j) w x1 (nI i + 1))) (upI S 0 0) (fun v S1 => okM m g (k v) S1 Q) := by
            intro hn
            refine oM_bpu ?_
            rw [nI_1, Int32.add_zero]
            refine ih (i + 1) c (by omega) (by omega) ?_
            have ep : pfs x.1 x.2.1 c (p :: ps.drop (i + 1)) = pfs x.1 x.2.1 c (ps.drop (i + 1)) := by
              unfold pfs
              rw [List.foldl_cons, if_neg hn]
            rw [ep] at hq
            exact hq
          refine oM_itF (nI_ge cc (by omega)) (oM_gR hM (oM_al (q := 5) hM rfl p5 (oM_gR hM (oM_al (q := 2) hM rfl n1 ?_))))
          by_cases d1 : p.1 = x.1
          · refine oM_itF (fun q => q d1) (oM_gR hM (oM_al (q := 6) hM rfl p6 (oM_gR hM (oM_al (q := 3) hM rfl n2 ?_))))
            by_cases d2 : p.2.1 = x.2.1
            · refine oM_itF (fun q => q d2) (oM_gR hM (oM_al (q := 7) hM rfl p7 (oM_bpu ?_)))
              rw [nI_1]
              refine ih (i + 1) _ (by omega) (by omega) ?_
              have ep : pfs x.1 x.2.1 c (p :: ps.drop (i + 1)) = pfs x.1 x.2.1 (c + p.2.2) (ps.drop (i + 1)) := by
                unfold pfs
                rw [List.foldl_cons, if_pos ⟨d1, d2⟩]
              rw [ep] at hq
              exact hq
            · exact oM_itT d2 (skip (fun q => d2 q.2))
          · exact oM_itT d1 (skip (fun q => d1 q.1))
        · rw [List.drop_eq_nil_of_le (by omega)] at hq
          refine oM_itT (nI_le (by omega) (by omega)) ?_
          by_cases w0 : w = 0
          · rw [if_pos w0] at hq
            exact oM_itT w0 (oM_gR hM (oM_al (q := 2) hM rfl n1 (oM_pu hq)))
          rw [if_neg w0] at hq
          refine oM_itF w0 ?_
          by_cases w1 : w = 1
          · rw [if_pos w1] at hq
            exact oM_itT w1 (oM_gR hM (oM_al (q := 3) hM rfl n2 (oM_pu hq)))
          rw [if_neg w1] at hq
          refine oM_itF w1 ?_
          by_cases w2 : w = 2
          · rw [if_pos w2] at hq
            exact oM_itT w2 (oM_gR hM (oM_al (q := 4) hM rfl n3 (oM_pu hq)))
          rw [if_neg w2] at hq
          refine oM_itF w2 ?_
          by_cases w3 : w = 3
          · rw [if_pos w3] at hq
            exact oM_itT w3 (oM_pu hq)
          rw [if_neg w3] at hq
          exact oM_itF w3 (oM_pu hq)
    have : FU = 1000000 := rfl
    exact loop FU 0 0 (by omega) (Nat.zero_le _) (by rw [List.drop_zero]; exact h)
theorem m_brings {a b : Int32} {part : List Int32} {sv : List Nat} {k : Unit → M α} {Q : α → MS → Prop} (hM : Mk m g) (hR : RepF S fs) (hP : RepP S ps) (hD : RepD S part) (hl : fs.length < 4000) (hps : ps.length < 4100) (ht : totF fs + part.length ≤ 16384) (hk : ∀ S', RepF S' (appF a b part fs sv).1 → RepP S' (ps ++ [(a, b, nI part.length)]) → S'.1 14 = 0 → S'.1 37 = S.1 37 + nI part.length → mfr [4, 8, 12, 14, 37] [1, 2, 3, 4, 5, 6, 7] S S' → okM m g (k ()) S' Q) : okM m g (bd (X9_brings m a b) k) S Q := by
  refine oM_bd ?_
  unfold X9_brings
  refine oM_gI hM (oM_gI hM (oM_pI hM (oM_ck hM ?_)))
  rw [hD.1]
  have f1 : mfr [37] [] S (upI S 37 (S.1 37 + nI part.length)) := mfr_I (by decide)
  refine m_comes (sv := sv) hM (repF_fr hR f1 (by decide) (by decide) (by decide) (by decide) (by decide) (by decide)) (repP_fr hP f1 (by decide) (by decide) (by decide) (by decide)) hD hl hps ht (fun S' r1 r2 r3 r4 => oM_pu (hk S' r1 r2 r3 ?_ ?_))
  · rw [r4.1 37 (by decide)]
    rfl
  · exact mfr_tr (mfr_mono f1 (by decide) (by decide)) (mfr_mono r4 (by decide) (by decide))
end
