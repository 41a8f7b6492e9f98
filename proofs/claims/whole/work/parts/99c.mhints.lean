/-! the reference: hint files and the mark -/
def DL (S : MS) (A l : List Int32) : MS := dS S (wrt A 0 l) l.length
def oIs (S : MS) (i : Nat) (r : AR) : Prop := r.1.length ≤ 16 ∧ (∀ t x, r.1[t]? = some x → (S.2 22)[16 * i + t]? = some x) ∧ (S.2 23)[i]? = some (nI r.1.length) ∧ (S.2 24)[i]? = some r.2.2.1 ∧ (S.2 25)[i]? = some r.2.2.2.1 ∧ (S.2 26)[i]? = some r.2.2.2.2
def oLen (S : MS) : Prop := (S.2 22).length = 19200 ∧ ((S.2 23).length = 1200 ∧ (S.2 24).length = 1200 ∧ (S.2 25).length = 1200 ∧ (S.2 26).length = 1200) ∧ nrm (S.2 22)
def RepO (S : MS) (os : List AR) : Prop := (S.1 53 = nI os.length ∧ os.length < 1200) ∧ oLen S ∧ ∀ i r, os[i]? = some r → oIs S i r
def RepI (S : MS) (is : List Int32) : Prop := (S.1 45 = nI is.length ∧ is.length ≤ 4000) ∧ (S.2 21).length = 4200 ∧ (S.2 21).take is.length = is
theorem repO_fr {S S' : MS} {os : List AR} {J K : List Nat} (h : RepO S os) (hf : mfr J K S S') (h53 : 53 ∉ J) (k22 : 22 ∉ K) (k23 : 23 ∉ K) (k24 : 24 ∉ K) (k25 : 25 ∉ K) (k26 : 26 ∉ K) : RepO S' os := by
  unfold RepO oLen oIs
  rw [hf.1 53 h53, hf.2 22 k22, hf.2 23 k23, hf.2 24 k24, hf.2 25 k25, hf.2 26 k26]
  exact h
theorem repI_fr {S S' : MS} {is : List Int32} {J K : List Nat} (h : RepI S is) (hf : mfr J K S S') (h45 : 45 ∉ J) (k21 : 21 ∉ K) : RepI S' is := by
  unfold RepI
  rw [hf.1 45 h45, hf.2 21 k21]
  exact h
def hiB (os : List AR) : List Int32 := be4 (nI os.length) ++ os.flatMap entB
def hiC (os : List AR) : List Int32 := hiB os ++ be4 (crcL (hiB os))
def mrB (is : List Int32) : List Int32 := be4 (nI is.length) ++ is.flatMap be4
def mrC (is : List Int32) : List Int32 := mrB is ++ be4 (crcL (mrB is))
theorem DL_0 {S : MS} : upI S 14 0 = DL S (S.2 8) [] := by
  unfold DL
  rw [wrt_nil]
  show _ = upI (upA S 8 (S.2 8)) 14 (nI 0)
  rw [upA_id]
  rfl
theorem mfr_DL {S : MS} {A l : List Int32} : mfr [14] [8] S (DL S A l) := mfr_dS
section
variable {m : Nat} {g : Gh} {S : MS} {α : Type} {rs ms os : List AR} {fs : List AF} {ps : List AV}
theorem DL_app {A l l' : List Int32} (h : l.length + l'.length ≤ A.length) : dS S (wrt (wrt A 0 l) l.length l') (l.length + l'.length) = DL S A (l ++ l') := by
  have e := wrt_wrt (A := A) (e := 0) (l := l) (l' := l') (by omega)
  rw [Nat.zero_add] at e
  unfold DL
  rw [e, List.length_append]
theorem DL_4 {v : Int32} {A l : List Int32} {k : Unit → M α} {Q : α → MS → Prop} (hM : Mk m g) (he : l.length + 4 ≤ A.length) (h : okM m g (k ()) (DL S A (l ++ be4 v)) Q) : okM m g (bd (X9_drafts m v 4) k) (DL S A l) Q := by
  refine m_drafts4 hM (by rw [wrt_len (by omega)]; exact he) ?_
  have e := DL_app (S := S) (A := A) (l := l) (l' := be4 v) (by rw [be4_len]; exact he)
  rw [be4_len] at e
  rw [e]
  exact h
theorem DL_2 {v : Int32} {A l : List Int32} {k : Unit → M α} {Q : α → MS → Prop} (hM : Mk m g) (he : l.length + 2 ≤ A.length) (h : okM m g (k ()) (DL S A (l ++ be2 v)) Q) : okM m g (bd (X9_drafts m v 2) k) (DL S A l) Q := by
  refine m_drafts2 hM (by rw [wrt_len (by omega)]; exact he) ?_
  have e := DL_app (S := S) (A := A) (l := l) (l' := be2 v) (by rw [be2_len]; exact he)
  rw [be2_len] at e
  rw [e]
  exact h
theorem DL_1 {v : Int32} {A l : List Int32} {k : Unit → M α} {Q : α → MS → Prop} (hM : Mk m g) (he : l.length + 1 ≤ A.length) (h : okM m g (k ()) (DL S A (l ++ [b8 v])) Q) : okM m g (bd (X9_drafts m v 1) k) (DL S A l) Q := by
  refine m_drafts1 hM (by rw [wrt_len (by omega)]; exact he) ?_
  have e := DL_app (S := S) (A := A) (l := l) (l' := [b8 v]) he
  have e : dS S (wrt (wrt A 0 l) l.length [b8 v]) (l.length + 1) = DL S A (l ++ [b8 v]) := e
  rw [e]
  exact h
theorem DL_take {A l : List Int32} (h : l.length ≤ A.length) : (wrt A 0 l).take l.length = l := by
  have := wrt_mid (A := A) (l := l) (e := 0) (by omega)
  rw [List.drop_zero] at this
  exact this
theorem repD_DL {l : List Int32} (hD : drOk S) (hn : nrm l) (hl : l.length ≤ 16384) : RepD (DL S (S.2 8) l) l := by
  have := hD.1
  refine ⟨rfl, ?_, ?_, hl, ?_⟩
  · show (wrt (S.2 8) 0 l).length = _
    rw [wrt_len (by omega)]
    exact hD.1
  · exact DL_take (by omega)
  · exact nrm_wrt hD.2 hn
theorem drOk_DL {l : List Int32} (hD : drOk S) (hn : nrm l) (hl : l.length ≤ 16384) : drOk (DL S (S.2 8) l) := by
  have := hD.1
  refine ⟨?_, nrm_wrt hD.2 hn⟩
  show (wrt (S.2 8) 0 l).length = _
  rw [wrt_len (by omega)]
  exact hD.1
theorem drOk_fr {S' : MS} {J K : List Nat} (h : drOk S) (hf : mfr J K S S') (k8 : 8 ∉ K) : drOk S' := by
  unfold drOk
  rw [hf.2 8 k8]
  exact h
/-- the draft's sum -/
theorem m_sumL {l : List Int32} {k2 : Int32 → M α} {Q : α → MS → Prop} (hM : Mk m g) (hD : drOk S) (hl : l.length ≤ 16384) (hk : okM m g (k2 (crcL l)) (DL S (S.2 8) l) Q) : okM m g (bd (gR 12 13 m) (fun y2 => bd (gI 12 14 m) (fun x3 => bd (X9_sum y2 0 x3) k2))) (DL S (S.2 8) l) Q := by
  have ld := hD.1
  have lw := wrt_len (A := S.2 8) (e := 0) (l := l) (by omega)
  refine oM_gR hM (oM_gI hM (m_sum (q := 8) (f := 0) (t := l.length) hM rfl rfl (Nat.zero_le _) ?_ ?_ ?_))
  · show l.length ≤ (wrt (S.2 8) 0 l).length
    omega
  · show (wrt (S.2 8) 0 l).length ≤ _
    omega
  · have e : (((DL S (S.2 8) l).2 8).drop 0).take (l.length - 0) = l := by
      rw [List.drop_zero, Nat.sub_zero]
      exact DL_take (by omega)
    rw [e]
    exact hk
theorem m_bringL {sv : List Nat} {a b : Int32} {l : List Int32} {k : Unit → M α} {Q : α → MS → Prop} (hM : Mk m g) (hF : RepF S fs) (hP : RepP S ps) (hD : drOk S) (hn : nrm l) (hl : fs.length < 4000) (hps : ps.length < 4100) (ht : totF fs + l.length ≤ 16384)
    (hk : ∀ S', RepF S' (appF a b l fs sv).1 → RepP S' (ps ++ [(a, b, nI l.length)]) → S'.1 37 = S.1 37 + nI l.length → drOk S' → mfr [4, 8, 12, 14, 37] [1, 2, 3, 4, 5, 6, 7, 8] S S' → okM m g (k ()) S' Q) : okM m g (bd (X9_brings m a b) k) (DL S (S.2 8) l) Q := by
  have f1 : mfr [14] [8] S (DL S (S.2 8) l) := mfr_DL
  exact m_brings (sv := sv) hM (repF_fr hF f1 (by decide) (by decide) (by decide) (by decide) (by decide) (by decide)) (repP_fr hP f1 (by decide) (by decide) (by decide) (by decide)) (repD_DL hD hn (by omega)) hl hps ht (fun S' r1 r2 r3 r4 r5 => hk S' r1 r2 r4 (drOk_fr (drOk_DL hD hn (by omega)) r5 (by decide)) (mfr_tr (mfr_mono f1 (by decide) (by decide)) (mfr_mono r5 (by decide) (by decide))))
theorem entB_len (r : AR) : (entB r).length = 14 + r.1.length := by
  unfold entB
  simp only [List.length_append, be4_len, be2_len]
theorem flat_take {β : Type} {l : List β} {f : β → List Int32} {i : Nat} {r : β} (h : l[i]? = some r) : (l.take (i + 1)).flatMap f = (l.take i).flatMap f ++ f r := by
  rw [take_snoc h, List.flatMap_append, List.flatMap_cons, List.flatMap_nil, List.append_nil]
theorem flat_le {β : Type} {l : List β} {f : β → List Int32} {i : Nat} : ((l.take i).flatMap f).length ≤ (l.flatMap f).length := by
  conv => rhs; rw [← List.take_append_drop i l]
  rw [List.flatMap_append, List.length_append]
  omega
theorem o_nrm (hO : RepO S os) : nrm (os.flatMap entB) := by
  intro v hv
  obtain ⟨r, hr, hv⟩ := List.mem_flatMap.mp hv
  obtain ⟨i, hi⟩ := List.mem_iff_getElem?.mp hr
  obtain ⟨b1, b2, _⟩ := hO.2.2 i r hi
  have nk : nrm r.1 := by
    intro x hx
    obtain ⟨t, ht⟩ := List.mem_iff_getElem?.mp hx
    exact nrm_get hO.2.1.2.2 (b2 t x ht)
  exact nrm_app (nrm_app (nrm_app (nrm_app (nrm_be4 _) (nrm_be4 _)) (nrm_be2 _)) (nrm_be4 _)) nk v hv
theorem m_hints {sv : List Nat} {k : Unit → M α} {Q : α → MS → Prop} (hM : Mk m g) (hF : RepF S fs) (hP : RepP S ps) (hO : RepO S os) (hD : drOk S) (hl : fs.length < 4000) (hps : ps.length < 4100) (ht : totF fs + (hiC os).length ≤ 16384)
    (hk : ∀ S', RepF S' (appF (S.1 35) 1 (hiC os) fs sv).1 → RepP S' (ps ++ [(S.1 35, 1, nI (hiC os).length)]) → S'.1 37 = S.1 37 + nI (hiC os).length → drOk S' → mfr [4, 8, 12, 14, 37] [1, 2, 3, 4, 5, 6, 7, 8] S S' → okM m g (k ()) S' Q) : okM m g (bd (X9_hints m) k) S Q := by
  refine oM_bd ?_
  unfold X9_hints
  have ld := hD.1
  have on := hO.1.2
  have lc : (hiC os).length = 4 + (os.flatMap entB).length + 4 := by
    unfold hiC hiB
    rw [List.length_append, List.length_append, be4_len, be4_len]
  refine oM_pI hM ?_
  rw [DL_0]
  refine oM_gI hM (oM_ck hM ?_)
  have e53 : ∀ l : List Int32, (DL S (S.2 8) l).1 53 = nI os.length := fun l => hO.1.1
  rw [e53]
  refine DL_4 hM (by rw [List.length_nil]; omega) ?_
  rw [List.nil_append]
  have loop : ∀ (w i : Nat), os.length - i < w → i ≤ os.length → okM m g (X9_hints_b16 w m (nI i)) (DL S (S.2 8) (be4 (nI os.length) ++ (os.take i).flatMap entB)) (fun v S1 => okM m g (k v) S1 Q) := by
    intro w
    induction w with
    | zero => intro i h; omega
    | succ w ih =>
      intro i hw hi
      show okM m g (X9_hints_b16b (X9_hints_b16 w) m (nI i)) _ _
      unfold X9_hints_b16b
      refine oM_gI hM ?_
      rw [e53]
      by_cases c : i < os.length
      · obtain ⟨r, hr⟩ := some_of_lt c
        obtain ⟨b1, b2, b3, b4, b5, b6⟩ := hO.2.2 i r hr
        have fl := flat_le (l := os) (f := entB) (i := i + 1)
        rw [flat_take hr, List.length_append, entB_len] at fl
        have ll : (be4 (nI os.length) ++ (os.take i).flatMap entB).length = 4 + ((os.take i).flatMap entB).length := by rw [List.length_append, be4_len]
        refine oM_itF (nI_ge c (by omega)) (oM_gR hM (oM_al (q := 26) hM rfl b6 (oM_ck hM (DL_4 hM (by omega) (oM_gR hM (oM_al (q := 24) hM rfl b4 (oM_ck hM (DL_4 hM ?_ (oM_gR hM (oM_al (q := 23) hM rfl b3 (oM_ck hM (DL_2 hM ?_ (oM_gR hM (oM_al (q := 25) hM rfl b5 (oM_ck hM (DL_4 hM ?_ ?_))))))))))))))))
        · rw [List.length_append, be4_len]
          omega
        · rw [List.length_append, List.length_append, be4_len, be4_len]
          omega
        · rw [List.length_append, List.length_append, List.length_append, be4_len, be4_len, be2_len]
          omega
        · have lh : (be4 (nI os.length) ++ (os.take i).flatMap entB ++ be4 r.2.2.2.2 ++ be4 r.2.2.1 ++ be2 (nI r.1.length) ++ be4 r.2.2.2.1).length = 18 + ((os.take i).flatMap entB).length := by
            simp only [List.length_append, be4_len, be2_len]
            omega
          have kl : ∀ (u t : Nat), r.1.length - t < u → t ≤ r.1.length → okM m g (X9_hints_b70 (X9_hints_b16 w) u m (nI i) (nI t)) (DL S (S.2 8) ((be4 (nI os.length) ++ (os.take i).flatMap entB ++ be4 r.2.2.2.2 ++ be4 r.2.2.1 ++ be2 (nI r.1.length) ++ be4 r.2.2.2.1) ++ r.1.take t)) (fun v S1 => okM m g (k v) S1 Q) := by
            intro u
            induction u with
            | zero => intro t h; omega
            | succ u iu =>
              intro t hu htl
              show okM m g (X9_hints_b70b (X9_hints_b16 w) (X9_hints_b70 (X9_hints_b16 w) u) m (nI i) (nI t)) _ _
              unfold X9_hints_b70b
              refine oM_gR hM (oM_al (q := 23) hM rfl b3 ?_)
              by_cases ct : t < r.1.length
              · obtain ⟨x, hx⟩ := some_of_lt ct
                have hx2 := b2 t x hx
                have ib : 16 * nI i + nI t = nI (16 * i + t) := by rw [nI_16, nI_add]
                have lt : (r.1.take t).length = t := by rw [List.length_take]; omega
                refine oM_itF (nI_ge ct (by omega)) (oM_gR hM (oM_al (q := 22) hM ib hx2 (oM_ck hM (DL_1 hM ?_ ?_))))
                · rw [List.length_append, lh, lt]
                  omega
                · rw [nI_1, nrm_get hO.2.1.2.2 hx2, List.append_assoc, ← take_snoc hx]
                  exact iu (t + 1) (by omega) (by omega)
              · have et : t = r.1.length := by omega
                subst et
                refine oM_itT (nI_le (Nat.le_refl _) (by omega)) ?_
                rw [nI_1]
                have q := ih (i + 1) (by omega) (by omega)
                rw [flat_take hr] at q
                rw [List.take_length]
                have ee : entB r = be4 r.2.2.2.2 ++ be4 r.2.2.1 ++ be2 (nI r.1.length) ++ be4 r.2.2.2.1 ++ r.1 := rfl
                rw [ee] at q
                simp only [List.append_assoc] at q ⊢
                exact q
          have : FU = 1000000 := rfl
          have q := kl FU 0 (by omega) (Nat.zero_le _)
          rw [List.take_zero, List.append_nil] at q
          exact q
      · have ei : i = os.length := by omega
        subst ei
        rw [List.take_length]
        have hb : be4 (nI os.length) ++ os.flatMap entB = hiB os := rfl
        rw [hb]
        have lb : (hiC os).length = (hiB os).length + 4 := by
          unfold hiC
          rw [List.length_append, be4_len]
        refine oM_itT (nI_le (Nat.le_refl _) (by omega)) ?_
        refine m_sumL hM hD (by omega) (oM_ck hM (DL_4 hM (by omega) (oM_gI hM (oM_ck hM ?_))))
        exact m_bringL (sv := sv) hM hF hP hD (nrm_app (nrm_app (nrm_be4 _) (o_nrm hO)) (nrm_be4 _)) hl hps ht (fun S' r1 r2 r3 r4 r5 => oM_pu (hk S' r1 r2 r3 r4 r5))
  have : FU = 1000000 := rfl
  have q := loop FU 0 (by omega) (Nat.zero_le _)
  rw [List.take_zero, List.flatMap_nil, List.append_nil] at q
  exact q
theorem i_get {is : List Int32} {i : Nat} {v : Int32} (hI : RepI S is) (h : is[i]? = some v) : (S.2 21)[i]? = some v := pre_get hI.2.2 h
theorem flat4_len (is : List Int32) : (is.flatMap be4).length = 4 * is.length := by
  induction is with
  | nil => rfl
  | cons x is ih =>
    rw [List.flatMap_cons, List.length_append, be4_len, ih, List.length_cons]
    omega
theorem flat4_nrm (is : List Int32) : nrm (is.flatMap be4) := by
  intro v hv
  obtain ⟨r, hr, hv⟩ := List.mem_flatMap.mp hv
  exact nrm_be4 r v hv
theorem m_fin12 {is : List Int32} {sv : List Nat} {Q : Unit → MS → Prop} (hM : Mk m g) (hF : RepF S fs) (hP : RepP S ps) (hI : RepI S is) (hD : drOk S) (hl : fs.length < 4000) (hps : ps.length < 4100) (ht : totF fs + (mrC is).length ≤ 16384)
    (hk : ∀ S', RepF S' (appF (S.1 24) 2 (mrC is) fs sv).1 → RepP S' [] → S'.1 35 = -1 → S'.1 47 = S.1 24 → S'.1 24 = S.1 24 + 1 → S'.1 34 = 2 → S'.1 37 = S.1 37 + nI (mrC is).length → drOk S' → mfr [4, 8, 12, 14, 24, 34, 35, 37, 47] [1, 2, 3, 4, 5, 6, 7, 8] S S' → Q () S') : okM m g (X9_finishes_b12 m) S Q := by
  unfold X9_finishes_b12
  have hil := hI.1.2
  have ld := hD.1
  have lc : (mrC is).length = 4 + 4 * is.length + 4 := by
    unfold mrC mrB
    rw [List.length_append, List.length_append, be4_len, be4_len, flat4_len]
  refine oM_pI hM (oM_gI hM (oM_pI hM (oM_gI hM (oM_pI hM ?_))))
  generalize hT : upI (upI (upI S 35 (-1)) 47 ((upI S 35 (-1)).1 24)) 24 ((upI (upI S 35 (-1)) 47 ((upI S 35 (-1)).1 24)).1 24 + 1) = T
  have fT : mfr [24, 35, 47] [] S T := by
    rw [← hT]
    exact mfr_tr (mfr_tr (mfr_I (by decide)) (mfr_I (by decide))) (mfr_I (by decide))
  have T47 : T.1 47 = S.1 24 := by rw [← hT]; rfl
  have T24 : T.1 24 = S.1 24 + 1 := by rw [← hT]; rfl
  have T35 : T.1 35 = -1 := by rw [← hT]; rfl
  have FT : RepF T fs := repF_fr hF fT (by decide) (by decide) (by decide) (by decide) (by decide) (by decide)
  have PT : RepP T ps := repP_fr hP fT (by decide) (by decide) (by decide) (by decide)
  have IT : RepI T is := repI_fr hI fT (by decide) (by decide)
  have DT : drOk T := drOk_fr hD fT (by decide)
  have ldT := DT.1
  refine oM_pI hM ?_
  rw [DL_0]
  refine oM_gI hM (oM_ck hM ?_)
  have e45 : ∀ l : List Int32, (DL T (T.2 8) l).1 45 = nI is.length := fun l => IT.1.1
  rw [e45]
  refine DL_4 hM (by rw [List.length_nil]; omega) ?_
  rw [List.nil_append]
  have loop : ∀ (w i : Nat), is.length - i < w → i ≤ is.length → okM m g (X9_finishes_b51 w m (nI i)) (DL T (T.2 8) (be4 (nI is.length) ++ (is.take i).flatMap be4)) Q := by
    intro w
    induction w with
    | zero => intro i h; omega
    | succ w ih =>
      intro i hw hi
      show okM m g (X9_finishes_b51b (X9_finishes_b51 w) m (nI i)) _ _
      unfold X9_finishes_b51b
      refine oM_gI hM ?_
      rw [e45]
      by_cases c : i < is.length
      · obtain ⟨v, hv⟩ := some_of_lt c
        refine oM_itF (nI_ge c (by omega)) (oM_gR hM (oM_al (q := 21) hM rfl (i_get IT hv) (oM_ck hM (DL_4 hM ?_ ?_))))
        · rw [List.length_append, be4_len, flat4_len, List.length_take]
          omega
        · rw [nI_1, List.append_assoc, ← flat_take hv]
          exact ih (i + 1) (by omega) (by omega)
      · have ei : i = is.length := by omega
        subst ei
        rw [List.take_length]
        have hb : be4 (nI is.length) ++ is.flatMap be4 = mrB is := rfl
        rw [hb]
        have lb : (mrC is).length = (mrB is).length + 4 := by
          unfold mrC
          rw [List.length_append, be4_len]
        refine oM_itT (nI_le (Nat.le_refl _) (by omega)) ?_
        refine m_sumL hM DT (by omega) (oM_ck hM (DL_4 hM (by omega) (oM_gI hM (oM_ck hM ?_))))
        have e47 : (DL T (T.2 8) (mrB is ++ be4 (crcL (mrB is)))).1 47 = S.1 24 := T47
        rw [e47]
        refine m_bringL (sv := sv) hM FT PT DT (nrm_app (nrm_app (nrm_be4 _) (flat4_nrm is)) (nrm_be4 _)) hl hps ht (fun S' r1 r2 r3 r4 r5 => oM_pI hM (oM_pI hM (oM_pu ?_)))
        have f6 : mfr [12, 34] [] S' (upI (upI S' 12 0) 34 2) := mfr_tr (mfr_I (by decide)) (mfr_I (by decide))
        refine hk _ (repF_fr r1 f6 (by decide) (by decide) (by decide) (by decide) (by decide) (by decide)) ?_ ?_ ?_ ?_ rfl ?_ (drOk_fr r4 f6 (by decide)) (mfr_tr (mfr_mono fT (by decide) (by decide)) (mfr_tr (mfr_mono r5 (by decide) (by decide)) (mfr_mono f6 (by decide) (by decide))))
        · exact ⟨⟨rfl, by decide⟩, r2.2.1, by simp, by simp, by simp⟩
        · rw [f6.1 35 (by decide), r5.1 35 (by decide)]
          exact T35
        · rw [f6.1 47 (by decide), r5.1 47 (by decide)]
          exact T47
        · rw [f6.1 24 (by decide), r5.1 24 (by decide)]
          exact T24
        · rw [f6.1 37 (by decide), r3, fT.1 37 (by decide)]
          rfl
  have : FU = 1000000 := rfl
  have q := loop FU 0 (by omega) (Nat.zero_le _)
  rw [List.take_zero, List.flatMap_nil, List.append_nil] at q
  exact q
theorem m_finishes {is : List Int32} {sv sv' : List Nat} {k : Unit → M α} {Q : α → MS → Prop} (hM : Mk m g) (hF : RepF S fs) (hP : RepP S ps) (hI : RepI S is) (hO : S.1 35 ≠ -1 → RepO S os) (hD : drOk S) (hl : fs.length < 3900) (hps : ps.length < 4000) (ht : totF fs + (if S.1 35 = -1 then 0 else (hiC os).length) + (mrC is).length ≤ 16384) (hl2 : (appF (S.1 35) 1 (hiC os) fs sv').1.length < 4000) (ht2 : S.1 35 ≠ -1 → totF (appF (S.1 35) 1 (hiC os) fs sv').1 = totF fs + (hiC os).length)
    (hk : ∀ S', RepF S' (appF (S.1 24) 2 (mrC is) (if S.1 35 = -1 then fs else (appF (S.1 35) 1 (hiC os) fs sv').1) sv).1 → RepP S' [] → S'.1 35 = -1 → S'.1 47 = S.1 24 → S'.1 24 = S.1 24 + 1 → S'.1 34 = 2 → drOk S' → mfr [4, 8, 12, 14, 24, 34, 35, 37, 47] [1, 2, 3, 4, 5, 6, 7, 8] S S' → okM m g (k ()) S' Q) : okM m g (bd (X9_finishes m) k) S Q := by
  refine oM_bd ?_
  unfold X9_finishes
  refine oM_gI hM ?_
  by_cases c : S.1 35 = -1
  · rw [if_pos c] at hk ht
    exact oM_itT c (m_fin12 (sv := sv) hM hF hP hI hD (by omega) (by omega) (by omega) (fun S' r1 r2 r3 r4 r5 r6 r7 r8 r9 => hk S' r1 r2 r3 r4 r5 r6 r8 r9))
  · rw [if_neg c] at hk ht
    refine oM_itF c (oM_ck hM (m_hints (sv := sv') hM hF hP (hO c) hD (by omega) (by omega) (by omega) (fun S1 q1 q2 q3 q4 q5 => ?_)))
    refine m_fin12 (sv := sv) hM q1 q2 (repI_fr hI q5 (by decide) (by decide)) q4 hl2 (by rw [List.length_append, List.length_singleton]; omega) (by rw [ht2 c]; omega) (fun S' r1 r2 r3 r4 r5 r6 r7 r8 r9 => hk S' ?_ r2 r3 ?_ ?_ r6 r8 (mfr_tr (mfr_mono q5 (by decide) (by decide)) r9))
    · rw [q5.1 24 (by decide)] at r1
      exact r1
    · rw [r4]
      exact q5.1 24 (by decide)
    · rw [r5, q5.1 24 (by decide)]
end
