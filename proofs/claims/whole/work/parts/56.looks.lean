/-! the calls that only look -/
def sUnits (V : VC) : Int32 := if V.2.2.1.1 = 0 then 0 else if ¬ V.2.2.1.2.2.2.1 = -1 then fcnt V.2.2.1.2.1 0 V.1.1 + 1 else (rbel V.2.2.1.2.1 0 V.2.1 + 1) + (fcnt V.2.2.1.2.1 0 V.1.1 + 1)
def sFile (f w : Int32) (V : VC) : Int32 := match oat V.1.1 f with
  | none => -1
  | some x => if w = 0 then x.1 else if w = 1 then x.2.1 else if w = 2 then nI x.2.2.1.length else if w = 3 then x.2.2.2.2 else -1
def sByte (f i : Int32) (V : VC) : Int32 := match oat V.1.1 f with
  | none => -1
  | some x => bat x.2.2.1 i
def sEntry (i w : Int32) (V : VC) : Int32 := if V.2.2.2.2.1.1 = 0 then -1 else match oat V.2.1 i with
  | none => -1
  | some r => if w = 0 then nI r.1.length else if w = 1 then r.2.2.2.1 else if w = 2 then r.2.1 else if w = 3 then r.2.2.1 else if w = 4 then r.2.2.2.2 else -1
def sKey (i j : Int32) (V : VC) : Int32 := if V.2.2.2.2.1.1 = 0 then -1 else match oat V.2.1 i with
  | none => -1
  | some r => bat r.1 j
def badA (fs : List AF) (r : AR) : Bool := match fndF r.2.1 0 fs with
  | none => true
  | some f => badR r f.2.2.1
def sBad (V : VC) : (Nat ⊕ Int32) × VC × Nat := if V.2.2.2.2.1.1 = 0 then (.inl 1, V, 0) else (.inr (V.2.1.foldl (fun c r => match badA V.1.1 r with
  | true => c + 1
  | false => c) 0), V, 0)
def sInside (w : Int32) (V : VC) : Int32 := if w = 11 then nI V.2.1.length else if w = 12 then V.2.2.2.2.1.2.2.1 else if w = 13 then V.1.2.2.2.2.2 else if w = 14 then V.2.2.2.2.1.2.1 else if w = 15 then V.2.2.1.2.2.1 else if w = 16 then sUnits V else if w = 17 then V.2.2.1.2.2.2.2.2.1 else if w = 18 then rlive 0 V.2.1 else if w = 19 then fdat 0 V.1.1 - rlive 0 V.2.1 else -1
def sLook (w : Int32) (V : VC) : Int32 := if w = 0 then (if V.2.2.2.2.1.1 = 0 then 0 else 1) else if w = 1 then V.1.2.2.2.1 else if w = 2 then V.1.2.2.2.2.1 else if w = 3 then nI V.1.1.length else if w = 4 then froom V.1.2.2.2.1 V.1.1 else if w = 5 then funs 0 V.1.1 else if w = 6 then nI V.2.2.2.2.1.2.2.2.1.length else if w = 7 then V.2.2.2.1.1 else if w = 8 then V.2.2.2.1.2.1 else if w = 9 then V.2.2.2.1.2.2.1 else if w = 10 then V.2.2.2.1.2.2.2.1 else if V.2.2.2.2.1.1 = 0 then -1 else sInside w V
section
variable {n : Nat} {g g' : Gh} {α : Type} {Q : α → Gh → Prop}
theorem oat_map {f : Int32} {l : List Nat} {α : Type} {h : Nat → α} : oat (l.map h) f = (oat l f).map h := by
  unfold oat
  split
  · rfl
  · rw [List.getElem?_map]
theorem oat_mem {α : Type} {f : Int32} {l : List α} {d : α} (h : oat l f = some d) : ∃ j : Nat, l[j]? = some d := by
  unfold oat at h
  split at h
  · cases h
  · exact ⟨_, h⟩
theorem k_units {k : Int32 → M α} (h : CI n g) (hk : ok (k (sUnits (CV n g))) g Q) : ok (bd (X5_unitsLeft (n + 16)) k) g Q := by
  refine ok_bd ?_
  unfold X5_unitsLeft
  have hC := ci_C h
  have eS : sUnits (CV n g) = if qi g 804 (n + 16) = 0 then 0 else if ¬ qi g 807 (n + 16) = -1 then fcnt (qi g 805 (n + 16)) 0 (FV n g) + 1 else (rbel (qi g 805 (n + 16)) 0 (RV n g) + 1) + (fcnt (qi g 805 (n + 16)) 0 (FV n g) + 1) := rfl
  rw [eS] at hk
  refine ok_gI (cs_mg hC) rfl ?_
  by_cases c0 : qi g 804 (n + 16) = 0
  · rw [if_pos c0] at hk
    exact ok_itF (fun q => q c0) (ok_pu hk)
  rw [if_neg c0] at hk
  refine ok_itT c0 (ok_md hC (ok_gI (cs_mg hC) rfl (ok_ck (cs_disk hC) (ok_countData hC (ci_D h) (ok_bpu (ok_gI (cs_mg hC) rfl ?_))))))
  by_cases c1 : qi g 807 (n + 16) = -1
  · rw [if_neg (fun q => q c1)] at hk
    exact ok_itF (fun q => q c1) (ok_mr hC (ok_gI (cs_mg hC) rfl (ok_ck (cs_dir hC) (ok_below hC (ci_R h) (ok_pu hk)))))
  · rw [if_pos c1] at hk
    exact ok_itT c1 (ok_pu hk)
theorem c_answer {i : Int32} {k : Int32 → M α} (h : CI n g) (hk : ok (k (bat (qB g (n + 5)) i)) g Q) : ok (bd (X8_answer n i) k) g Q := by
  refine ok_bd ?_
  unfold X8_answer
  have hC := ci_C h
  exact ok_xfound hC (ok_ck (cs_found hC) (ok_bat (cs_found hC) (ok_pu hk)))
theorem c_file {f w : Int32} {k : Int32 → M α} (h : CI n g) (hk : ok (k (sFile f w (CV n g))) g Q) : ok (bd (X8_file n f w) k) g Q := by
  refine ok_bd ?_
  unfold X8_file
  have hC := ci_C h
  refine ok_xd hC (ok_ck (cs_disk hC) (ok_at hC (ci_D h) ?_))
  unfold sFile at hk
  have e0 : (CV n g).1.1 = (qL g (n + 10)).map (fvw g) := rfl
  rw [e0, oat_map] at hk
  cases ho : oat (qL g (n + 10)) f with
  | none =>
    rw [ho] at hk
    exact ok_pu hk
  | some d =>
    rw [ho] at hk
    simp only [Option.map_some] at hk
    obtain ⟨j, hj⟩ := oat_mem ho
    have hdk := di_at (ci_D h) hj
    show ok (it (w = 0) _ _) g _
    by_cases c0 : w = 0
    · rw [if_pos c0] at hk
      exact ok_itT c0 (ok_gI hdk.1 rfl (ok_pu hk))
    rw [if_neg c0] at hk
    refine ok_itF c0 ?_
    by_cases c1 : w = 1
    · rw [if_pos c1] at hk
      exact ok_itT c1 (ok_gI hdk.1 rfl (ok_pu hk))
    rw [if_neg c1] at hk
    refine ok_itF c1 ?_
    by_cases c2 : w = 2
    · rw [if_pos c2] at hk
      exact ok_itT c2 (ok_dbs hdk (ok_pu hk))
    rw [if_neg c2] at hk
    refine ok_itF c2 ?_
    by_cases c3 : w = 3
    · rw [if_pos c3] at hk
      exact ok_itT c3 (ok_gI hdk.1 rfl (ok_pu hk))
    rw [if_neg c3] at hk
    exact ok_itF c3 (ok_pu hk)
theorem c_byteOf {f i : Int32} {k : Int32 → M α} (h : CI n g) (hk : ok (k (sByte f i (CV n g))) g Q) : ok (bd (X8_byteOf n f i) k) g Q := by
  refine ok_bd ?_
  unfold X8_byteOf
  have hC := ci_C h
  refine ok_xd hC (ok_ck (cs_disk hC) (ok_at hC (ci_D h) ?_))
  unfold sByte at hk
  have e0 : (CV n g).1.1 = (qL g (n + 10)).map (fvw g) := rfl
  rw [e0, oat_map] at hk
  cases ho : oat (qL g (n + 10)) f with
  | none =>
    rw [ho] at hk
    exact ok_pu hk
  | some d =>
    rw [ho] at hk
    obtain ⟨j, hj⟩ := oat_mem ho
    have hdk := di_at (ci_D h) hj
    exact ok_dby hdk (ok_ck hdk.2.2.1 (ok_bat hdk.2.2.1 (ok_pu hk)))
theorem c_entry {i w : Int32} {k : Int32 → M α} (h : CI n g) (hk : ok (k (sEntry i w (CV n g))) g Q) : ok (bd (X8_entry n i w) k) g Q := by
  refine ok_bd ?_
  unfold X8_entry
  have hC := ci_C h
  refine ok_xr hC (ok_ck (cs_dir hC) (ok_row hC (ci_R h) (ok_gI (cs_x hC) rfl ?_)))
  unfold sEntry at hk
  have e1 : (CV n g).2.2.2.2.1.1 = qi g 1108 n := rfl
  rw [e1] at hk
  by_cases c : qi g 1108 n = 0
  · rw [if_pos c] at hk
    exact ok_itT c (ok_pu hk)
  rw [if_neg c] at hk
  refine ok_itF c ?_
  have e0 : (CV n g).2.1 = (qL g (n + 14)).map (rvw g) := rfl
  rw [e0, oat_map] at hk
  cases ho : oat (qL g (n + 14)) i with
  | none =>
    rw [ho] at hk
    exact ok_pu hk
  | some d =>
    rw [ho] at hk
    simp only [Option.map_some] at hk
    obtain ⟨j, hj⟩ := oat_mem ho
    have hdk := ri_at (ci_R h) hj
    show ok (it (w = 0) _ _) g _
    by_cases c0 : w = 0
    · rw [if_pos c0] at hk
      exact ok_itT c0 (ok_rbs hdk (ok_pu hk))
    rw [if_neg c0] at hk
    refine ok_itF c0 ?_
    by_cases c1 : w = 1
    · rw [if_pos c1] at hk
      exact ok_itT c1 (ok_gI hdk.1 rfl (ok_pu hk))
    rw [if_neg c1] at hk
    refine ok_itF c1 ?_
    by_cases c2 : w = 2
    · rw [if_pos c2] at hk
      exact ok_itT c2 (ok_gI hdk.1 rfl (ok_pu hk))
    rw [if_neg c2] at hk
    refine ok_itF c2 ?_
    by_cases c3 : w = 3
    · rw [if_pos c3] at hk
      exact ok_itT c3 (ok_gI hdk.1 rfl (ok_pu hk))
    rw [if_neg c3] at hk
    refine ok_itF c3 ?_
    by_cases c4 : w = 4
    · rw [if_pos c4] at hk
      exact ok_itT c4 (ok_gI hdk.1 rfl (ok_pu hk))
    rw [if_neg c4] at hk
    exact ok_itF c4 (ok_pu hk)
theorem c_key {i j : Int32} {k : Int32 → M α} (h : CI n g) (hk : ok (k (sKey i j (CV n g))) g Q) : ok (bd (X8_key n i j) k) g Q := by
  refine ok_bd ?_
  unfold X8_key X8_key_b20
  have hC := ci_C h
  refine ok_xr hC (ok_ck (cs_dir hC) (ok_row hC (ci_R h) (ok_gI (cs_x hC) rfl ?_)))
  unfold sKey at hk
  have e1 : (CV n g).2.2.2.2.1.1 = qi g 1108 n := rfl
  rw [e1] at hk
  by_cases c : qi g 1108 n = 0
  · rw [if_pos c] at hk
    exact ok_itT c (ok_pu hk)
  rw [if_neg c] at hk
  refine ok_itF c ?_
  have e0 : (CV n g).2.1 = (qL g (n + 14)).map (rvw g) := rfl
  rw [e0, oat_map] at hk
  cases ho : oat (qL g (n + 14)) i with
  | none =>
    rw [ho] at hk
    exact ok_pu hk
  | some d =>
    rw [ho] at hk
    obtain ⟨j, hj⟩ := oat_mem ho
    have hdk := ri_at (ci_R h) hj
    exact ok_rby hdk (ok_ck hdk.2.2.1 (ok_bat hdk.2.2.1 (ok_pu hk)))
theorem k_inside {w : Int32} {k : Int32 → M α} (h : CI n g) (hk : ok (k (sInside w (CV n g))) g Q) : ok (bd (X8_lookInside n w) k) g Q := by
  refine ok_bd ?_
  unfold X8_lookInside
  have hC := ci_C h
  unfold sInside at hk
  by_cases c : w = 11
  · rw [if_pos c] at hk
    exact ok_itT c (ok_xr hC (ok_ck (cs_dir hC) (ok_rcount hC (ok_pu hk))))
  rw [if_neg c] at hk
  refine ok_itF c ?_
  clear c
  by_cases c : w = 12
  · rw [if_pos c] at hk
    exact ok_itT c (ok_gI (cs_x hC) rfl (ok_pu hk))
  rw [if_neg c] at hk
  refine ok_itF c ?_
  clear c
  by_cases c : w = 13
  · rw [if_pos c] at hk
    exact ok_itT c (ok_xd hC (ok_gI (cs_disk hC) rfl (ok_pu hk)))
  rw [if_neg c] at hk
  refine ok_itF c ?_
  clear c
  by_cases c : w = 14
  · rw [if_pos c] at hk
    exact ok_itT c (ok_gI (cs_x hC) rfl (ok_pu hk))
  rw [if_neg c] at hk
  refine ok_itF c ?_
  clear c
  by_cases c : w = 15
  · rw [if_pos c] at hk
    exact ok_itT c (ok_xm hC (ok_gI (cs_mg hC) rfl (ok_pu hk)))
  rw [if_neg c] at hk
  refine ok_itF c ?_
  clear c
  by_cases c : w = 16
  · rw [if_pos c] at hk
    exact ok_itT c (ok_xm hC (ok_ck (cs_mg hC) (k_units h (ok_pu hk))))
  rw [if_neg c] at hk
  refine ok_itF c ?_
  clear c
  by_cases c : w = 17
  · rw [if_pos c] at hk
    exact ok_itT c (ok_xm hC (ok_gI (cs_mg hC) rfl (ok_pu hk)))
  rw [if_neg c] at hk
  refine ok_itF c ?_
  clear c
  by_cases c : w = 18
  · rw [if_pos c] at hk
    exact ok_itT c (ok_xr hC (ok_ck (cs_dir hC) (ok_live hC (ci_R h) (ok_pu hk))))
  rw [if_neg c] at hk
  refine ok_itF c ?_
  clear c
  by_cases c : w = 19
  · rw [if_pos c] at hk
    exact ok_itT c (ok_xd hC (ok_ck (cs_disk hC) (ok_dataBytes hC (ci_D h) (ok_xr hC (ok_ck (cs_dir hC) (ok_live hC (ci_R h) (ok_pu hk)))))))
  rw [if_neg c] at hk
  exact ok_itF c (ok_pu hk)
theorem c_look {w : Int32} {k : Int32 → M α} (h : CI n g) (hk : ok (k (sLook w (CV n g))) g Q) : ok (bd (X8_look n w) k) g Q := by
  refine ok_bd ?_
  unfold X8_look
  have hC := ci_C h
  unfold sLook at hk
  by_cases c : w = 0
  · rw [if_pos c] at hk
    refine ok_itT c (ok_gI (cs_x hC) rfl ?_)
    have e1 : (CV n g).2.2.2.2.1.1 = qi g 1108 n := rfl
    rw [e1] at hk
    by_cases c0 : qi g 1108 n = 0
    · rw [if_pos c0] at hk
      exact ok_itT c0 (ok_pu hk)
    · rw [if_neg c0] at hk
      exact ok_itF c0 (ok_pu hk)
  rw [if_neg c] at hk
  refine ok_itF c ?_
  clear c
  by_cases c : w = 1
  · rw [if_pos c] at hk
    exact ok_itT c (ok_xd hC (ok_gI (cs_disk hC) rfl (ok_pu hk)))
  rw [if_neg c] at hk
  refine ok_itF c ?_
  clear c
  by_cases c : w = 2
  · rw [if_pos c] at hk
    exact ok_itT c (ok_xd hC (ok_gI (cs_disk hC) rfl (ok_pu hk)))
  rw [if_neg c] at hk
  refine ok_itF c ?_
  clear c
  by_cases c : w = 3
  · rw [if_pos c] at hk
    exact ok_itT c (ok_xd hC (ok_ck (cs_disk hC) (ok_count hC (ok_pu hk))))
  rw [if_neg c] at hk
  refine ok_itF c ?_
  clear c
  by_cases c : w = 4
  · rw [if_pos c] at hk
    exact ok_itT c (ok_xd hC (ok_ck (cs_disk hC) (ok_room hC (ci_D h) (ok_pu hk))))
  rw [if_neg c] at hk
  refine ok_itF c ?_
  clear c
  by_cases c : w = 5
  · rw [if_pos c] at hk
    exact ok_itT c (ok_xd hC (ok_ck (cs_disk hC) (ok_unsynced hC (ci_D h) (ok_pu hk))))
  rw [if_neg c] at hk
  refine ok_itF c ?_
  clear c
  by_cases c : w = 6
  · rw [if_pos c] at hk
    exact ok_itT c (ok_xtape hC (ok_ck (cs_tape hC) (ok_bsize (cs_tape hC) (ok_pu hk))))
  rw [if_neg c] at hk
  refine ok_itF c ?_
  clear c
  by_cases c : w = 7
  · rw [if_pos c] at hk
    exact ok_itT c (ok_xo hC (ok_gI (cs_op hC) rfl (ok_pu hk)))
  rw [if_neg c] at hk
  refine ok_itF c ?_
  clear c
  by_cases c : w = 8
  · rw [if_pos c] at hk
    exact ok_itT c (ok_xo hC (ok_gI (cs_op hC) rfl (ok_pu hk)))
  rw [if_neg c] at hk
  refine ok_itF c ?_
  clear c
  by_cases c : w = 9
  · rw [if_pos c] at hk
    exact ok_itT c (ok_xo hC (ok_gI (cs_op hC) rfl (ok_pu hk)))
  rw [if_neg c] at hk
  refine ok_itF c ?_
  clear c
  by_cases c : w = 10
  · rw [if_pos c] at hk
    exact ok_itT c (ok_xo hC (ok_gI (cs_op hC) rfl (ok_pu hk)))
  rw [if_neg c] at hk
  refine ok_itF c (ok_gI (cs_x hC) rfl ?_)
  have e1 : (CV n g).2.2.2.2.1.1 = qi g 1108 n := rfl
  rw [e1] at hk
  by_cases c0 : qi g 1108 n = 0
  · rw [if_pos c0] at hk
    exact ok_itT c0 (ok_pu hk)
  · rw [if_neg c0] at hk
    exact ok_itF c0 (ok_ck (cs_x hC) (k_inside h (ok_pu hk)))
theorem bad_loop {Q : Nat ⊕ Int32 → Gh → Prop} (h : CI n g) (hl : (qL g (n + 14)).length ≤ 60000) (hR : ∀ r, r ∈ RV n g → ¬ r.2.2.1 < 0 ∧ r.2.2.1.toNatClampNeg ≤ 20000 ∧ r.2.2.2.1.toNatClampNeg ≤ 64) : ∀ (m i : Nat) (c : Int32), (RV n g).length - i < m → i ≤ (RV n g).length → Q (.inr (((RV n g).drop i).foldl (fun c r => match badA (FV n g) r with
  | true => c + 1
  | false => c) c)) g → ok (X8_bad_b21 m n c (nI i)) g Q := by
  intro m
  have hC := ci_C h
  induction m with
  | zero => intro i c h; omega
  | succ m ih =>
    intro i c hm hi hq
    show ok (X8_bad_b21b (X8_bad_b21 m) n c (nI i)) g Q
    unfold X8_bad_b21b
    refine ok_xr hC (ok_ck (cs_dir hC) (ok_rcount hC ?_))
    have hlen := rv_len (n := n) (g := g)
    by_cases e : i < (qL g (n + 14)).length
    · obtain ⟨d, hd⟩ := some_of_lt e
      have hrv := rv_at hd
      have hdk := ri_at (ci_R h) hd
      obtain ⟨r1, r2, r3⟩ := hR _ (List.mem_of_getElem? hrv)
      rw [drop_cons hrv, List.foldl_cons] at hq
      refine ok_itF (nI_ge (by omega) (by omega)) (ok_xr hC (ok_ck (cs_dir hC) (ok_row hC (ci_R h) ?_)))
      rw [oat_nI (by omega), hd]
      show ok (bd (gR 11 4 n) _) g Q
      refine ok_xd hC (ok_gI hdk.1 rfl (ok_ck (cs_disk hC) (ok_find hC (ci_D h) ?_)))
      unfold X8_bad_b61 X8_bad_b84 X8_bad_b87
      have next : ∀ c', Q (.inr (((RV n g).drop (i + 1)).foldl (fun c r => match badA (FV n g) r with
        | true => c + 1
        | false => c) c')) g → ok (X8_bad_b21 m n c' (nI i + 1)) g Q := by
        intro c' hq'
        rw [nI_1]
        exact ih (i + 1) c' (by omega) (by omega) hq'
      have eb : badA (FV n g) (rvw g d) = match fndF (qi g 1001 d) 0 (FV n g) with
        | none => true
        | some f => badR (rvw g d) f.2.2.1 := rfl
      show ok (co (fnd n g (qi g 1001 d) 0) _ _) g Q
      cases hf : fnd n g (qi g 1001 d) 0 with
      | none =>
        rw [eb, fnd_N hf] at hq
        exact next _ hq
      | some fd =>
        have hfk := fnd_ok (ci_D h) hf
        rw [eb, fnd_F hf] at hq
        refine ok_dby hfk (k_isBad hdk hfk.2.2.1 r1 (Nat.le_trans r2 (by decide)) r3 ?_)
        show ok (it (bI (badR (rvw g d) (fvw g fd).2.2.1) = 0) _ _) g Q
        dsimp only at hq
        cases hb : badR (rvw g d) (fvw g fd).2.2.1 with
        | true =>
          rw [hb] at hq
          exact ok_itF (by decide) (next _ hq)
        | false =>
          rw [hb] at hq
          exact ok_itT rfl (next _ hq)
    · have e2 : i = (qL g (n + 14)).length := by omega
      rw [List.drop_eq_nil_of_le (by omega)] at hq
      exact ok_itT (nI_le (by omega) (by omega)) (ok_pu hq)
theorem c_bad {Q : Nat ⊕ Int32 → Gh → Prop} (h : CI n g) (hG : GI (CV n g)) (hk : ∀ g1, Cp n g g1 (sBad (CV n g)).2.2 → CV n g1 = (sBad (CV n g)).2.1 → Q (sBad (CV n g)).1 (fin (sBad (CV n g)).1 g1)) : ok (X8_bad n) g Q := by
  refine ok_rlen (ci_C h) (fun hl => ?_)
  unfold X8_bad
  have hC := ci_C h
  have eS : sBad (CV n g) = (if qi g 1108 n = 0 then (.inl 1, CV n g, 0) else (.inr ((RV n g).foldl (fun c r => match badA (FV n g) r with
    | true => c + 1
    | false => c) 0), CV n g, 0)) := rfl
  rw [eS] at hk
  refine ok_gI (cs_x hC) rfl ?_
  by_cases c0 : qi g 1108 n = 0
  · rw [if_pos c0] at hk
    exact ok_itF (fun q => q c0) (ok_th (hk g (cp_refl h) rfl))
  rw [if_neg c0] at hk
  have : FU = 1000000 := rfl
  have hlen := rv_len (n := n) (g := g)
  exact ok_itT c0 (bad_loop h hl (fun r hr => (hG.2.1.2.2 r hr).2) FU 0 0 (by omega) (Nat.zero_le _) (by rw [List.drop_zero]; exact hk g (cp_refl h) rfl))
end
