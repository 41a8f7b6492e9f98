/-! the disk: its files as a list (number, kind, bytes, the row's length, how many are not synced), the spares' lengths -/
abbrev AF : Type := Int32 × Int32 × List Int32 × Nat × Int32
def fvw (g : Gh) (d : Nat) : AF := (qi g 701 d, qi g 702 d, qB g (d + 1), qC g (d + 1), qi g 703 d)
def FV (n : Nat) (g : Gh) : List AF := (qL g (n + 10)).map (fvw g)
def SV (n : Nat) (g : Gh) : List Nat := (qL g (n + 11)).map (fun d => qC g (d + 1))
def dOk (n : Nat) (g : Gh) (d : Nat) : Prop := qk g d = 8 ∧ qr g 700 d = d + 1 ∧ qk g (d + 1) = 5 ∧ n + 22 ≤ d
def DI (n : Nat) (g : Gh) : Prop := (∀ d, d ∈ qL g (n + 10) ++ qL g (n + 11) → dOk n g d) ∧ (qL g (n + 10) ++ qL g (n + 11)).Nodup
def oat {α : Type} (l : List α) (i : Int32) : Option α := if i < 0 then none else l[i.toNatClampNeg]?
def froom (c : Int32) (fs : List AF) : Int32 := fs.foldl (fun c f => c - nI f.2.2.1.length) c
def funs (c : Int32) (fs : List AF) : Int32 := fs.foldl (fun c f => c + f.2.2.2.2) c
def fdat (c : Int32) (fs : List AF) : Int32 := fs.foldl (fun c f => c + (if f.2.1 = 0 then nI f.2.2.1.length else 0)) c
def fcnt (l : Int32) (c : Int32) (fs : List AF) : Int32 := fs.foldl (fun c f => c + (if f.2.1 = 0 ∧ f.1 < l then 1 else 0)) c
/-- where such a file is, or would be -/
def plF (a b : Int32) : List AF → Nat
  | [] => 0
  | f :: fs => if a < f.1 ∨ (f.1 = a ∧ ¬ f.2.1 < b) then 0 else plF a b fs + 1
def isF (a b : Int32) (f : AF) : Bool := decide (f.1 = a ∧ f.2.1 = b)
theorem nI_cl {i : Int32} (h : ¬ i < 0) : i = nI i.toNatClampNeg := by
  apply Int32.toInt_inj.mp
  have h1 : 0 ≤ i.toInt := by
    rw [Int32.lt_iff_toInt_lt, Int32.toInt_zero] at h
    omega
  have h2 : i.toNatClampNeg = i.toInt.toNat := rfl
  have h3 : i.toInt < 2 ^ 31 := Int32.toInt_lt i
  rw [h2, nI_toInt (by omega)]
  omega
theorem clamp_lt (i : Int32) : i.toNatClampNeg < 2 ^ 31 := by
  have h2 : i.toNatClampNeg = i.toInt.toNat := rfl
  have h3 : i.toInt < 2 ^ 31 := Int32.toInt_lt i
  omega
theorem oat_nI {α : Type} {l : List α} {i : Nat} (h : i < 2 ^ 31) : oat l (nI i) = l[i]? := by
  unfold oat
  rw [if_neg (nI_pos h), nI_clamp h]
theorem some_of_lt {α : Type} {l : List α} {i : Nat} (h : i < l.length) : ∃ d, l[i]? = some d := ⟨l[i], List.getElem?_eq_getElem h⟩
theorem plF_le (a b : Int32) (fs : List AF) : plF a b fs ≤ fs.length := by
  induction fs with
  | nil => exact Nat.le_refl _
  | cons f fs ih =>
    unfold plF
    split
    · exact Nat.zero_le _
    · simp only [List.length_cons]
      omega
section
variable {n : Nat} {g g' : Gh} {α : Type} {Q : α → Gh → Prop}
theorem di_at (hD : DI n g) {j d : Nat} (h : (qL g (n + 10))[j]? = some d) : dOk n g d := hD.1 d (List.mem_append_left _ (List.mem_of_getElem? h))
theorem fv_len : (FV n g).length = (qL g (n + 10)).length := List.length_map ..
theorem fv_at {j d : Nat} (h : (qL g (n + 10))[j]? = some d) : (FV n g)[j]? = some (fvw g d) := by
  unfold FV
  rw [List.getElem?_map, h]
  rfl
theorem fv_drop {j d : Nat} (h : (qL g (n + 10))[j]? = some d) : (FV n g).drop j = fvw g d :: (FV n g).drop (j + 1) := by
  have h1 := fv_at h
  have h2 := lt_of_some h1
  rw [List.drop_eq_getElem_cons h2]
  rw [List.getElem?_eq_getElem h2] at h1
  rw [Option.some.inj h1]
theorem ok_len {x : M α} (hC : Cs n g) (hx : (qL g (n + 10)).length ≤ 60000 → ok x g Q) : ok x g Q := ok_capL (cs_fl hC) (fun h _ => hx h)
theorem ok_fsz {k : Int32 → M α} (hC : Cs n g) (hx : ok (k (nI (qL g (n + 10)).length)) g Q) : ok (bd (gR 6 0 (n + 9)) (fun y => bd (ck 2 y) (fun _ => bd (Jx4a65c_size_8abf5 y) k))) g Q := ok_fl hC (ok_ck (cs_fl hC) (ok_lsize (cs_fl hC) hx))
theorem ok_fget {k : Nat → M α} {x : Int32} {j d : Nat} (hC : Cs n g) (hD : DI n g) (hj : x = nI j) (hd : (qL g (n + 10))[j]? = some d) (hx : dOk n g d → ok (k d) g Q) : ok (bd (gR 6 0 (n + 9)) (fun y => bd (ck 2 y) (fun _ => bd (Jx4a65c_get_915e3 y x) (fun d => bd (ck 7 d) (fun _ => k d))))) g Q := ok_fl hC (ok_ck (cs_fl hC) (ok_lget (cs_fl hC) hj hd (ok_ck (di_at hD hd).1 (hx (di_at hD hd)))))
theorem ok_dby {k : Nat → M α} {d : Nat} (hd : dOk n g d) (hx : ok (k (d + 1)) g Q) : ok (bd (gR 7 0 d) k) g Q := ok_gR hd.1 hd.2.1 (by omega) hx
theorem ok_dbs {k : Int32 → M α} {d : Nat} (hd : dOk n g d) (hx : ok (k (nI (qB g (d + 1)).length)) g Q) : ok (bd (gR 7 0 d) (fun y => bd (ck 4 y) (fun _ => bd (X1_size y) k))) g Q := ok_dby hd (ok_ck hd.2.2.1 (ok_bsize hd.2.2.1 hx))
theorem ok_count {k : Int32 → M α} (hC : Cs n g) (hx : ok (k (nI (FV n g).length)) g Q) : ok (bd (X3_count (n + 9)) k) g Q := by
  rw [fv_len] at hx
  exact ok_bd (ok_fsz hC (ok_pu hx))
theorem ok_at {i : Int32} {k : Option Nat → M α} (hC : Cs n g) (hD : DI n g) (hx : ok (k (oat (qL g (n + 10)) i)) g Q) : ok (bd (X3_at (n + 9) i) k) g Q := by
  refine ok_len hC (fun hl => ok_bd ?_)
  unfold X3_at
  unfold oat at hx
  by_cases h0 : i < 0
  · rw [if_pos h0] at hx
    exact ok_itT h0 (ok_pu hx)
  · rw [if_neg h0] at hx
    refine ok_itF h0 (ok_fsz hC ?_)
    have e := nI_cl h0
    by_cases h1 : i.toNatClampNeg < (qL g (n + 10)).length
    · obtain ⟨d, hd⟩ := some_of_lt h1
      rw [hd] at hx
      refine ok_itF (by rw [e]; exact nI_ge h1 (by omega)) (ok_fget hC hD e hd (fun _ => ok_pu hx))
    · rw [List.getElem?_eq_none (by omega)] at hx
      refine ok_itT (by rw [e]; exact nI_le (by omega) (clamp_lt i)) (ok_pu hx)
theorem placeFor_loop {a b : Int32} (hC : Cs n g) (hD : DI n g) (hl : (qL g (n + 10)).length ≤ 60000) {Q : Int32 → Gh → Prop} : ∀ (m i : Nat), (FV n g).length - i < m → i ≤ (FV n g).length → Q (nI (i + plF a b ((FV n g).drop i))) g → ok (X3_placeFor_b2 m (n + 9) a b (nI i)) g Q := by
  intro m
  induction m with
  | zero => intro i h; omega
  | succ m ih =>
    intro i hm hi hq
    show ok (X3_placeFor_b2b (X3_placeFor_b2 m) (n + 9) a b (nI i)) g Q
    unfold X3_placeFor_b2b
    refine ok_fsz hC ?_
    rw [fv_len] at hm hi
    by_cases e : i < (qL g (n + 10)).length
    · obtain ⟨d, hd⟩ := some_of_lt e
      rw [fv_drop hd] at hq
      have next : Q (nI (i + 1 + plF a b ((FV n g).drop (i + 1)))) g → ok (X3_placeFor_b55 (X3_placeFor_b2 m) (n + 9) a b (nI i)) g Q := by
        intro hq2
        unfold X3_placeFor_b55
        rw [nI_1]
        exact ih (i + 1) (by rw [fv_len]; omega) (by rw [fv_len]; omega) hq2
      refine ok_itF (nI_ge e (by omega)) (ok_fget hC hD rfl hd (fun hk => ok_gI hk.1 rfl ?_))
      have hq : Q (nI (i + (if a < qi g 701 d ∨ (qi g 701 d = a ∧ ¬ qi g 702 d < b) then 0 else plF a b ((FV n g).drop (i + 1)) + 1))) g := hq
      by_cases c1 : a < qi g 701 d
      · rw [if_pos (Or.inl c1)] at hq
        exact ok_itT c1 (ok_pu hq)
      · refine ok_itF c1 (ok_gI hk.1 rfl ?_)
        by_cases c2 : qi g 701 d = a
        · refine ok_itF (fun q => q c2) (ok_gI hk.1 rfl ?_)
          by_cases c3 : qi g 702 d < b
          · rw [if_neg (by rintro (q | ⟨_, q⟩); exact c1 q; exact q c3), ← Nat.add_assoc, Nat.add_right_comm] at hq
            exact ok_itT c3 (next hq)
          · rw [if_pos (Or.inr ⟨c2, c3⟩)] at hq
            exact ok_itF c3 (ok_pu hq)
        · rw [if_neg (by rintro (q | ⟨q, _⟩); exact c1 q; exact c2 q), ← Nat.add_assoc, Nat.add_right_comm] at hq
          exact ok_itT c2 (next hq)
    · have e2 : i = (qL g (n + 10)).length := by omega
      rw [List.drop_eq_nil_of_le (by rw [fv_len]; omega)] at hq
      subst e2
      exact ok_itT (nI_le (Nat.le_refl _) (by omega)) (ok_fsz hC (ok_pu hq))
theorem ok_placeFor {a b : Int32} {k : Int32 → M α} (hC : Cs n g) (hD : DI n g) (hx : ok (k (nI (plF a b (FV n g)))) g Q) : ok (bd (X3_placeFor (n + 9) a b) k) g Q := by
  refine ok_len hC (fun hl => ok_bd ?_)
  have : FU = 1000000 := rfl
  refine placeFor_loop hC hD hl FU 0 (by rw [fv_len]; omega) (Nat.zero_le _) ?_
  rw [List.drop_zero, Nat.zero_add]
  exact hx
def fnd (n : Nat) (g : Gh) (a b : Int32) : Option Nat := match (qL g (n + 10))[plF a b (FV n g)]? with
  | none => none
  | some d => if qi g 701 d = a ∧ qi g 702 d = b then some d else none
theorem ok_isOf {d : Nat} {a b : Int32} {k : Int32 → M α} (hd : dOk n g d) (hx : ok (k (if qi g 701 d = a ∧ qi g 702 d = b then 1 else 0)) g Q) : ok (bd (X4_isOf d a b) k) g Q := by
  refine ok_bd ?_
  unfold X4_isOf
  refine ok_gI hd.1 rfl ?_
  by_cases c1 : qi g 701 d = a
  · refine ok_itF (fun q => q c1) (ok_gI hd.1 rfl ?_)
    by_cases c2 : qi g 702 d = b
    · rw [if_pos ⟨c1, c2⟩] at hx
      exact ok_itF (fun q => q c2) (ok_pu hx)
    · rw [if_neg (fun q => c2 q.2)] at hx
      exact ok_itT c2 (ok_pu hx)
  · rw [if_neg (fun q => c1 q.1)] at hx
    exact ok_itT c1 (ok_pu hx)
theorem ok_find {a b : Int32} {k : Option Nat → M α} (hC : Cs n g) (hD : DI n g) (hx : ok (k (fnd n g a b)) g Q) : ok (bd (X3_find (n + 9) a b) k) g Q := by
  refine ok_len hC (fun hl => ok_bd ?_)
  unfold X3_find
  refine ok_ck (cs_disk hC) (ok_placeFor hC hD (ok_ck (cs_disk hC) (ok_at hC hD ?_)))
  have hp := plF_le a b (FV n g)
  rw [fv_len] at hp
  rw [oat_nI (by omega)]
  unfold fnd at hx
  cases hd : (qL g (n + 10))[plF a b (FV n g)]? with
  | none =>
    rw [hd] at hx
    exact ok_pu hx
  | some d =>
    rw [hd] at hx
    have hk := di_at hD hd
    refine ok_ck hk.1 (ok_isOf hk ?_)
    by_cases c : qi g 701 d = a ∧ qi g 702 d = b
    · rw [if_pos c]
      simp only [if_pos c] at hx
      exact ok_itF (by decide) (ok_pu hx)
    · rw [if_neg c]
      simp only [if_neg c] at hx
      exact ok_itT rfl (ok_pu hx)
theorem fnd_some {a b : Int32} {d : Nat} (h : fnd n g a b = some d) : (qL g (n + 10))[plF a b (FV n g)]? = some d ∧ qi g 701 d = a ∧ qi g 702 d = b := by
  unfold fnd at h
  cases hd : (qL g (n + 10))[plF a b (FV n g)]? with
  | none => rw [hd] at h; cases h
  | some e =>
    rw [hd] at h
    by_cases c : qi g 701 e = a ∧ qi g 702 e = b
    · simp only [if_pos c] at h
      cases h
      exact ⟨rfl, c⟩
    · simp only [if_neg c] at h
      cases h
theorem fnd_ok {a b : Int32} {d : Nat} (hD : DI n g) (h : fnd n g a b = some d) : dOk n g d := di_at hD (fnd_some h).1
/-- the size of such a file, 0 if there is none -/
def szO (n : Nat) (g : Gh) (a b : Int32) : Nat := match fnd n g a b with
  | none => 0
  | some d => (qB g (d + 1)).length
theorem ok_sizeOf {a b : Int32} {k : Int32 → M α} (hC : Cs n g) (hD : DI n g) (hx : ok (k (nI (szO n g a b))) g Q) : ok (bd (X3_sizeOf (n + 9) a b) k) g Q := by
  refine ok_bd ?_
  unfold X3_sizeOf
  refine ok_ck (cs_disk hC) (ok_find hC hD ?_)
  unfold szO at hx
  cases hd : fnd n g a b with
  | none =>
    rw [hd] at hx
    exact ok_pu hx
  | some d =>
    rw [hd] at hx
    exact ok_dbs (fnd_ok hD hd) (ok_pu hx)
theorem room_loop (hC : Cs n g) (hD : DI n g) (hl : (qL g (n + 10)).length ≤ 60000) {Q : Int32 → Gh → Prop} : ∀ (m i : Nat) (c : Int32), (FV n g).length - i < m → i ≤ (FV n g).length → Q (froom c ((FV n g).drop i)) g → ok (X3_room_b7 m (n + 9) c (nI i)) g Q := by
  intro m
  induction m with
  | zero => intro i c h; omega
  | succ m ih =>
    intro i c hm hi hq
    show ok (X3_room_b7b (X3_room_b7 m) (n + 9) c (nI i)) g Q
    unfold X3_room_b7b
    refine ok_fsz hC ?_
    rw [fv_len] at hm hi
    by_cases e : i < (qL g (n + 10)).length
    · obtain ⟨d, hd⟩ := some_of_lt e
      rw [fv_drop hd] at hq
      refine ok_itF (nI_ge e (by omega)) (ok_fget hC hD rfl hd (fun hk => ok_dbs hk (ok_bpu ?_)))
      rw [nI_1]
      exact ih (i + 1) _ (by rw [fv_len]; omega) (by rw [fv_len]; omega) hq
    · have e2 : i = (qL g (n + 10)).length := by omega
      rw [List.drop_eq_nil_of_le (by rw [fv_len]; omega)] at hq
      subst e2
      exact ok_itT (nI_le (Nat.le_refl _) (by omega)) (ok_pu hq)
theorem ok_room {k : Int32 → M α} (hC : Cs n g) (hD : DI n g) (hx : ok (k (froom (qi g 604 (n + 9)) (FV n g))) g Q) : ok (bd (X3_room (n + 9)) k) g Q := by
  refine ok_len hC (fun hl => ok_bd ?_)
  have : FU = 1000000 := rfl
  refine ok_gI (cs_disk hC) rfl (room_loop hC hD hl FU 0 _ (by rw [fv_len]; omega) (Nat.zero_le _) ?_)
  rw [List.drop_zero]
  exact hx
theorem unsynced_loop (hC : Cs n g) (hD : DI n g) (hl : (qL g (n + 10)).length ≤ 60000) {Q : Int32 → Gh → Prop} : ∀ (m i : Nat) (c : Int32), (FV n g).length - i < m → i ≤ (FV n g).length → Q (funs c ((FV n g).drop i)) g → ok (X3_unsynced_b4 m (n + 9) c (nI i)) g Q := by
  intro m
  induction m with
  | zero => intro i c h; omega
  | succ m ih =>
    intro i c hm hi hq
    show ok (X3_unsynced_b4b (X3_unsynced_b4 m) (n + 9) c (nI i)) g Q
    unfold X3_unsynced_b4b
    refine ok_fsz hC ?_
    rw [fv_len] at hm hi
    by_cases e : i < (qL g (n + 10)).length
    · obtain ⟨d, hd⟩ := some_of_lt e
      rw [fv_drop hd] at hq
      refine ok_itF (nI_ge e (by omega)) (ok_fget hC hD rfl hd (fun hk => ok_gI hk.1 rfl (ok_bpu ?_)))
      rw [nI_1]
      exact ih (i + 1) _ (by rw [fv_len]; omega) (by rw [fv_len]; omega) hq
    · have e2 : i = (qL g (n + 10)).length := by omega
      rw [List.drop_eq_nil_of_le (by rw [fv_len]; omega)] at hq
      subst e2
      exact ok_itT (nI_le (Nat.le_refl _) (by omega)) (ok_pu hq)
theorem ok_unsynced {k : Int32 → M α} (hC : Cs n g) (hD : DI n g) (hx : ok (k (funs 0 (FV n g))) g Q) : ok (bd (X3_unsynced (n + 9)) k) g Q := by
  refine ok_len hC (fun hl => ok_bd ?_)
  have : FU = 1000000 := rfl
  refine unsynced_loop hC hD hl FU 0 _ (by rw [fv_len]; omega) (Nat.zero_le _) ?_
  rw [List.drop_zero]
  exact hx
theorem dataBytes_loop (hC : Cs n g) (hD : DI n g) (hl : (qL g (n + 10)).length ≤ 60000) {Q : Int32 → Gh → Prop} : ∀ (m i : Nat) (c : Int32), (FV n g).length - i < m → i ≤ (FV n g).length → Q (fdat c ((FV n g).drop i)) g → ok (X3_dataBytes_b4 m (n + 9) c (nI i)) g Q := by
  intro m
  induction m with
  | zero => intro i c h; omega
  | succ m ih =>
    intro i c hm hi hq
    show ok (X3_dataBytes_b4b (X3_dataBytes_b4 m) (n + 9) c (nI i)) g Q
    unfold X3_dataBytes_b4b X3_dataBytes_b46
    refine ok_fsz hC ?_
    rw [fv_len] at hm hi
    by_cases e : i < (qL g (n + 10)).length
    · obtain ⟨d, hd⟩ := some_of_lt e
      rw [fv_drop hd] at hq
      have hq2 : Q (fdat (c + (if qi g 702 d = 0 then nI (qB g (d + 1)).length else 0)) ((FV n g).drop (i + 1))) g := hq
      refine ok_itF (nI_ge e (by omega)) (ok_fget hC hD rfl hd (fun hk => ok_gI hk.1 rfl ?_))
      by_cases c1 : qi g 702 d = 0
      · rw [if_pos c1] at hq2
        refine ok_itF (fun q => q c1) (ok_dbs hk (ok_bpu ?_))
        rw [nI_1]
        exact ih (i + 1) _ (by rw [fv_len]; omega) (by rw [fv_len]; omega) hq2
      · rw [if_neg c1] at hq2
        refine ok_itT c1 (ok_bpu ?_)
        rw [nI_1]
        exact ih (i + 1) _ (by rw [fv_len]; omega) (by rw [fv_len]; omega) hq2
    · have e2 : i = (qL g (n + 10)).length := by omega
      rw [List.drop_eq_nil_of_le (by rw [fv_len]; omega)] at hq
      subst e2
      exact ok_itT (nI_le (Nat.le_refl _) (by omega)) (ok_pu hq)
theorem ok_dataBytes {k : Int32 → M α} (hC : Cs n g) (hD : DI n g) (hx : ok (k (fdat 0 (FV n g))) g Q) : ok (bd (X3_dataBytes (n + 9)) k) g Q := by
  refine ok_len hC (fun hl => ok_bd ?_)
  have : FU = 1000000 := rfl
  refine dataBytes_loop hC hD hl FU 0 _ (by rw [fv_len]; omega) (Nat.zero_le _) ?_
  rw [List.drop_zero]
  exact hx
theorem countData_loop {l : Int32} (hC : Cs n g) (hD : DI n g) (hl : (qL g (n + 10)).length ≤ 60000) {Q : Int32 → Gh → Prop} : ∀ (m i : Nat) (c : Int32), (FV n g).length - i < m → i ≤ (FV n g).length → Q (fcnt l c ((FV n g).drop i)) g → ok (X3_countData_b4 m (n + 9) l c (nI i)) g Q := by
  intro m
  induction m with
  | zero => intro i c h; omega
  | succ m ih =>
    intro i c hm hi hq
    show ok (X3_countData_b4b (X3_countData_b4 m) (n + 9) l c (nI i)) g Q
    unfold X3_countData_b4b X3_countData_b50 X3_countData_b51
    refine ok_fsz hC ?_
    rw [fv_len] at hm hi
    by_cases e : i < (qL g (n + 10)).length
    · obtain ⟨d, hd⟩ := some_of_lt e
      rw [fv_drop hd] at hq
      have hq2 : Q (fcnt l (c + (if qi g 702 d = 0 ∧ qi g 701 d < l then 1 else 0)) ((FV n g).drop (i + 1))) g := hq
      refine ok_itF (nI_ge e (by omega)) (ok_fget hC hD rfl hd (fun hk => ok_gI hk.1 rfl ?_))
      by_cases c1 : qi g 702 d = 0
      · refine ok_itF (fun q => q c1) (ok_gI hk.1 rfl ?_)
        by_cases c2 : qi g 701 d < l
        · rw [if_pos ⟨c1, c2⟩] at hq2
          refine ok_itF (Int32.not_le.mpr c2) (ok_bpu ?_)
          rw [nI_1]
          exact ih (i + 1) _ (by rw [fv_len]; omega) (by rw [fv_len]; omega) hq2
        · rw [if_neg (fun q => c2 q.2)] at hq2
          refine ok_itT (Int32.not_lt.mp c2) (ok_bpu ?_)
          rw [nI_1]
          exact ih (i + 1) _ (by rw [fv_len]; omega) (by rw [fv_len]; omega) hq2
      · rw [if_neg (fun q => c1 q.1)] at hq2
        refine ok_itT c1 (ok_bpu ?_)
        rw [nI_1]
        exact ih (i + 1) _ (by rw [fv_len]; omega) (by rw [fv_len]; omega) hq2
    · have e2 : i = (qL g (n + 10)).length := by omega
      rw [List.drop_eq_nil_of_le (by rw [fv_len]; omega)] at hq
      subst e2
      exact ok_itT (nI_le (Nat.le_refl _) (by omega)) (ok_pu hq)
theorem ok_countData {l : Int32} {k : Int32 → M α} (hC : Cs n g) (hD : DI n g) (hx : ok (k (fcnt l 0 (FV n g))) g Q) : ok (bd (X3_countData (n + 9) l) k) g Q := by
  refine ok_len hC (fun hl => ok_bd ?_)
  have : FU = 1000000 := rfl
  refine countData_loop hC hD hl FU 0 _ (by rw [fv_len]; omega) (Nat.zero_le _) ?_
  rw [List.drop_zero]
  exact hx
/-- the first file of a kind, by its address -/
def fst1 (g : Gh) (b : Int32) : List Nat → Option Nat
  | [] => none
  | d :: l => if qi g 702 d = b then some d else fst1 g b l
theorem firstOf_loop {b : Int32} (hC : Cs n g) (hD : DI n g) (hl : (qL g (n + 10)).length ≤ 60000) {Q : Option Nat → Gh → Prop} : ∀ (m i : Nat), (qL g (n + 10)).length - i < m → i ≤ (qL g (n + 10)).length → Q (fst1 g b ((qL g (n + 10)).drop i)) g → ok (X3_firstOf_b2 m (n + 9) b (nI i)) g Q := by
  intro m
  induction m with
  | zero => intro i h; omega
  | succ m ih =>
    intro i hm hi hq
    show ok (X3_firstOf_b2b (X3_firstOf_b2 m) (n + 9) b (nI i)) g Q
    unfold X3_firstOf_b2b
    refine ok_fsz hC ?_
    by_cases e : i < (qL g (n + 10)).length
    · obtain ⟨d, hd⟩ := some_of_lt e
      have e3 : (qL g (n + 10)).drop i = d :: (qL g (n + 10)).drop (i + 1) := by
        rw [List.drop_eq_getElem_cons e]
        rw [List.getElem?_eq_getElem e] at hd
        rw [Option.some.inj hd]
      rw [e3] at hq
      unfold fst1 at hq
      refine ok_itF (nI_ge e (by omega)) (ok_fget hC hD rfl hd (fun hk => ok_gI hk.1 rfl ?_))
      by_cases c1 : qi g 702 d = b
      · rw [if_pos c1] at hq
        exact ok_itF (fun q => q c1) (ok_pu hq)
      · rw [if_neg c1] at hq
        refine ok_itT c1 ?_
        rw [nI_1]
        exact ih (i + 1) (by omega) (by omega) hq
    · have e2 : i = (qL g (n + 10)).length := by omega
      rw [List.drop_eq_nil_of_le (by omega)] at hq
      subst e2
      exact ok_itT (nI_le (Nat.le_refl _) (by omega)) (ok_pu hq)
theorem ok_firstOf {b : Int32} {k : Option Nat → M α} (hC : Cs n g) (hD : DI n g) (hx : ok (k (fst1 g b (qL g (n + 10)))) g Q) : ok (bd (X3_firstOf (n + 9) b) k) g Q := by
  refine ok_len hC (fun hl => ok_bd ?_)
  have : FU = 1000000 := rfl
  refine firstOf_loop hC hD hl FU 0 (by omega) (Nat.zero_le _) ?_
  rw [List.drop_zero]
  exact hx
end
