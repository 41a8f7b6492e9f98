/-! the order in which a merge copies -/
theorem lies_iff {a b : AR} : liesA a b = true ↔ (a.2.1.toInt < b.2.1.toInt ∨ (a.2.1.toInt = b.2.1.toInt ∧ a.2.2.1.toInt < b.2.2.1.toInt)) := by
  unfold liesA
  rw [decide_eq_true_iff, Int32.lt_iff_toInt_lt, Int32.lt_iff_toInt_lt, ← Int32.toInt_inj]
theorem lies_not {a b : AR} : liesA a b = false ↔ ¬ (a.2.1.toInt < b.2.1.toInt ∨ (a.2.1.toInt = b.2.1.toInt ∧ a.2.2.1.toInt < b.2.2.1.toInt)) := by
  rw [← lies_iff]
  cases liesA a b
  · exact ⟨fun _ q => (by cases q), fun _ => rfl⟩
  · exact ⟨fun q => (by cases q), fun q => absurd rfl q⟩
theorem bhd_tr {a b c : AR} (h1 : bhd a b) (h2 : bhd b c) : bhd a c := by
  unfold bhd at *
  rw [lies_iff, lies_not] at *
  rcases h1 with h1 | ⟨h1, k1⟩
  · rcases h2 with h2 | ⟨h2, k2⟩
    · exact Or.inl (by omega)
    · exact Or.inl (by omega)
  · rcases h2 with h2 | ⟨h2, k2⟩
    · by_cases c1 : a.2.1.toInt < c.2.1.toInt ∨ (a.2.1.toInt = c.2.1.toInt ∧ a.2.2.1.toInt < c.2.2.1.toInt)
      · exact Or.inl c1
      · exfalso
        omega
    · by_cases c1 : a.2.1.toInt < c.2.1.toInt ∨ (a.2.1.toInt = c.2.1.toInt ∧ a.2.2.1.toInt < c.2.2.1.toInt)
      · exact Or.inl c1
      · exact Or.inr ⟨by omega, csg_trans _ _ _ k1 k2⟩
theorem bhd_as {a b : AR} (h1 : bhd a b) (h2 : bhd b a) : False := bhd_ne (bhd_tr h1 h2) rfl
theorem bhd_tot {a b : AR} (h : csg a.1 b.1 < 0 ∨ csg b.1 a.1 < 0) : bhd a b ∨ bhd b a := by
  unfold bhd
  rw [lies_iff, lies_not, lies_iff, lies_not]
  by_cases c1 : a.2.1.toInt < b.2.1.toInt ∨ (a.2.1.toInt = b.2.1.toInt ∧ a.2.2.1.toInt < b.2.2.1.toInt)
  · exact Or.inl (Or.inl c1)
  · by_cases c2 : b.2.1.toInt < a.2.1.toInt ∨ (b.2.1.toInt = a.2.1.toInt ∧ b.2.2.1.toInt < a.2.2.1.toInt)
    · exact Or.inr (Or.inl c2)
    · rcases h with h | h
      · exact Or.inl (Or.inr ⟨c2, h⟩)
      · exact Or.inr (Or.inr ⟨c1, h⟩)
theorem ahd_iff {rs : List AR} {i j : Nat} {a b : AR} (hS : SrtR rs) (hi : rs[i]? = some a) (hj : rs[j]? = some b) : ahd rs i j = true ↔ bhd a b := by
  unfold ahd bhd
  rw [hi, hj]
  dsimp only
  rw [Bool.or_eq_true, Bool.and_eq_true, decide_eq_true_iff]
  have key : i < j ↔ csg a.1 b.1 < 0 := by
    constructor
    · intro q
      exact srtR_get hS hi hj q
    · intro q
      rcases Nat.lt_trichotomy i j with z | z | z
      · exact z
      · subst z
        rw [hi] at hj
        cases hj
        rw [csg_refl] at q
        omega
      · have := srtR_get hS hj hi z
        have := csg_anti a.1 b.1
        omega
  rw [key]
  constructor
  · rintro (q | ⟨q1, q2⟩)
    · exact Or.inl q
    · refine Or.inr ⟨?_, q1⟩
      cases h : liesA b a with
      | false => rfl
      | true =>
        rw [h] at q2
        cases q2
  · rintro (q | ⟨q1, q2⟩)
    · exact Or.inl q
    · exact Or.inr ⟨q2, by rw [q1]; rfl⟩
/-- who may come next -/
def cand (rs : List AR) (l : Int32) (o : Option AR) (r : AR) : Prop := r ∈ rs ∧ r.2.1 < l ∧ ∀ q, o = some q → bhd q r
theorem nbR_min {rs : List AR} {l : Int32} {o : Option Nat} {oa : Option AR} (hS : SrtR rs) (ho : ∀ j, o = some j → ∃ q, rs[j]? = some q ∧ oa = some q) (ho2 : o = none → oa = none) : ∀ (m i : Nat) (best : Option Nat), i + m = rs.length → (best = none → ∀ k r, k < i → rs[k]? = some r → ¬ cand rs l oa r) → (∀ b, best = some b → ∃ rb, b < i ∧ rs[b]? = some rb ∧ cand rs l oa rb ∧ ∀ k r, k < i → rs[k]? = some r → cand rs l oa r → r = rb ∨ bhd rb r) → (nbR rs l o m i best = none → ∀ r, ¬ cand rs l oa r) ∧ ∀ b, nbR rs l o m i best = some b → ∃ rb, rs[b]? = some rb ∧ cand rs l oa rb ∧ ∀ r, cand rs l oa r → r = rb ∨ bhd rb r
  | 0, i, best, hi, h1, h2 => by
    refine ⟨fun e r hc => ?_, fun b e => ?_⟩
    · obtain ⟨k, hk⟩ := List.mem_iff_getElem?.mp hc.1
      exact h1 e k r (by have := lt_of_some hk; omega) hk hc
    · obtain ⟨rb, q1, q2, q3, q4⟩ := h2 b e
      refine ⟨rb, q2, q3, fun r hc => ?_⟩
      obtain ⟨k, hk⟩ := List.mem_iff_getElem?.mp hc.1
      exact q4 k r (by have := lt_of_some hk; omega) hk hc
  | m + 1, i, best, hi, h1, h2 => by
    obtain ⟨r, hr⟩ := some_of_lt (show i < rs.length by omega)
    have oc : (∀ j, o = some j → ahd rs j i = true) ↔ ∀ q, oa = some q → bhd q r := by
      constructor
      · intro z q hq
        cases ho' : o with
        | none =>
          rw [ho2 ho'] at hq
          cases hq
        | some j =>
          obtain ⟨q', z1, z2⟩ := ho j ho'
          rw [z2] at hq
          cases hq
          exact (ahd_iff hS z1 hr).mp (z j ho')
      · intro z j hj
        obtain ⟨q', z1, z2⟩ := ho j hj
        exact (ahd_iff hS z1 hr).mpr (z q' z2)
    have eS : nbS rs l o i best = if r.2.1 < l ∧ (∀ j, o = some j → ahd rs j i = true) ∧ (∀ b, best = some b → ahd rs i b = true) then some i else best := by
      unfold nbS
      rw [hr]
    show (nbR rs l o m (i + 1) (nbS rs l o i best) = none → _) ∧ ∀ b, nbR rs l o m (i + 1) (nbS rs l o i best) = some b → _
    refine nbR_min hS ho ho2 m (i + 1) (nbS rs l o i best) (by omega) (fun e k x hk hx hc => ?_) (fun b e => ?_)
    · rw [eS] at e
      split at e
      · cases e
      · rename_i hn
        by_cases ck : k = i
        · subst ck
          rw [hr] at hx
          cases hx
          exact hn ⟨hc.2.1, oc.mpr hc.2.2, fun b hb => by rw [e] at hb; cases hb⟩
        · exact h1 e k x (by omega) hx hc
    · rw [eS] at e
      split at e
      · rename_i hy
        cases e
        refine ⟨r, by omega, hr, ⟨List.mem_of_getElem? hr, hy.1, oc.mp hy.2.1⟩, fun k x hk hx hc => ?_⟩
        by_cases ck : k = i
        · subst ck
          rw [hr] at hx
          cases hx
          exact Or.inl rfl
        · cases hbst : best with
          | none => exact absurd hc (h1 hbst k x (by omega) hx)
          | some b0 =>
            obtain ⟨rb, q1, q2, q3, q4⟩ := h2 b0 hbst
            have hlt := (ahd_iff hS hr q2).mp (hy.2.2 b0 hbst)
            rcases q4 k x (by omega) hx hc with z | z
            · rw [z]
              exact Or.inr hlt
            · exact Or.inr (bhd_tr hlt z)
      · rename_i hn
        obtain ⟨rb, q1, q2, q3, q4⟩ := h2 b e
        refine ⟨rb, by omega, q2, q3, fun k x hk hx hc => ?_⟩
        by_cases ck : k = i
        · subst ck
          rw [hr] at hx
          cases hx
          have hnb : ¬ bhd r rb := fun z => hn ⟨hc.2.1, oc.mpr hc.2.2, fun b' hb' => by
            rw [e] at hb'
            cases hb'
            exact (ahd_iff hS hr q2).mpr z⟩
          have hne : csg rb.1 r.1 < 0 := srtR_get hS q2 hr q1
          rcases bhd_tot (a := rb) (b := r) (Or.inl hne) with z | z
          · exact Or.inr z
          · exact absurd z hnb
        · exact q4 k x (by omega) hx hc
theorem nxB_none {rs : List AR} {l : Int32} {o : Option Nat} {oa : Option AR} (hS : SrtR rs) (ho : ∀ j, o = some j → ∃ q, rs[j]? = some q ∧ oa = some q) (ho2 : o = none → oa = none) (h : ∀ r, ¬ cand rs l oa r) : nxB rs l o = none := by
  obtain ⟨h1, h2⟩ := nbR_min (l := l) hS ho ho2 rs.length 0 none (by omega) (fun _ k r hk => by omega) (fun b e => by cases e)
  cases e : nxB rs l o with
  | none => rfl
  | some b =>
    obtain ⟨rb, _, q, _⟩ := h2 b e
    exact absurd q (h rb)
theorem nxB_some {rs : List AR} {l : Int32} {o : Option Nat} {oa : Option AR} {r : AR} (hS : SrtR rs) (ho : ∀ j, o = some j → ∃ q, rs[j]? = some q ∧ oa = some q) (ho2 : o = none → oa = none) (hc : cand rs l oa r) (hm : ∀ x, cand rs l oa x → x = r ∨ bhd r x) : nxB rs l o = some (plR r.1 rs) ∧ rs[plR r.1 rs]? = some r := by
  obtain ⟨h1, h2⟩ := nbR_min (l := l) hS ho ho2 rs.length 0 none (by omega) (fun _ k r hk => by omega) (fun b e => by cases e)
  have hr := srtR_mem hS hc.1
  refine ⟨?_, hr⟩
  cases e : nxB rs l o with
  | none => exact absurd hc (h1 e r)
  | some b =>
    obtain ⟨rb, q1, q2, q3⟩ := h2 b e
    have : rb = r := by
      rcases hm rb q2 with z | z
      · exact z
      · rcases q3 r hc with w | w
        · exact w.symm
        · exact absurd (bhd_as z w) id
    subst this
    rw [plR_self hS q1]
/-- the sorted list: in order, and all there -/
theorem insA_srt {r : AR} {ms : List AR} (h : ms.Pairwise bhd) (hr : ∀ x, x ∈ ms → csg x.1 r.1 < 0) : (insA r ms).Pairwise bhd := by
  unfold insA
  have key : ∀ t, t ≤ ms.length → (∀ j x, posT ms r t ≤ j → j < t → ms[j]? = some x → ahL x r = true) ∧ (∀ x, 0 < posT ms r t → ms[posT ms r t - 1]? = some x → ahL x r = false) := by
    intro t
    induction t with
    | zero => exact fun _ => ⟨fun j x h1 h2 => by omega, fun x h1 => absurd h1 (Nat.lt_irrefl 0)⟩
    | succ t ih =>
      intro ht
      obtain ⟨y, hy⟩ := some_of_lt (show t < ms.length by omega)
      obtain ⟨i1, i2⟩ := ih (by omega)
      unfold posT
      rw [hy]
      dsimp only
      cases ha : ahL y r with
      | true =>
        refine ⟨fun j x h1 h2 hx => ?_, i2⟩
        by_cases c : j = t
        · subst c
          rw [hy] at hx
          cases hx
          exact ha
        · exact i1 j x h1 (by omega) hx
      | false =>
        dsimp only
        refine ⟨fun j x h1 h2 => by omega, fun x _ hx => ?_⟩
        have : t + 1 - 1 = t := by omega
        rw [this, hy] at hx
        cases hx
        exact ha
  obtain ⟨k1, k2⟩ := key ms.length (Nat.le_refl _)
  have pl := posT_le (ms := ms) r ms.length
  generalize posT ms r ms.length = p at *
  have hah : ∀ x, ahL x r = true ↔ liesA r x = true := by
    intro x
    unfold ahL liesA
    rw [decide_eq_true_iff, decide_eq_true_iff]
    constructor
    · rintro (q | q)
      · exact Or.inl q
      · exact Or.inr ⟨q.1.symm, q.2⟩
    · rintro (q | q)
      · exact Or.inl q
      · exact Or.inr ⟨q.1.symm, q.2⟩
  have bef : ∀ x, x ∈ ms.take p → bhd x r := by
    intro x hx
    obtain ⟨j, hj⟩ := List.mem_iff_getElem?.mp hx
    rw [List.getElem?_take] at hj
    split at hj
    · rename_i cj
      have hm := List.mem_of_getElem? hj
      obtain ⟨y, hy⟩ := some_of_lt (show p - 1 < ms.length by omega)
      have hya := k2 y (by omega) hy
      have hyr : bhd y r := by
        refine (bhd_tot (a := y) (b := r) (Or.inl (hr y (List.mem_of_getElem? hy)))).resolve_right (fun q => ?_)
        rcases q with q | q
        · rw [(hah y).mpr q] at hya
          cases hya
        · have := hr y (List.mem_of_getElem? hy)
          have := csg_anti y.1 r.1
          omega
      by_cases e : j = p - 1
      · rw [e, hy] at hj
        cases hj
        exact hyr
      · have hp := List.pairwise_iff_getElem.mp h j (p - 1) (by omega) (by omega) (by omega)
        rw [List.getElem?_eq_getElem (by omega)] at hj hy
        rw [Option.some.inj hj, Option.some.inj hy] at hp
        exact bhd_tr hp hyr
    · cases hj
  have aft : ∀ x, x ∈ ms.drop p → bhd r x := by
    intro x hx
    obtain ⟨j, hj⟩ := List.mem_iff_getElem?.mp hx
    rw [List.getElem?_drop] at hj
    have := lt_of_some hj
    exact Or.inl ((hah x).mp (k1 (p + j) x (by omega) (by omega) hj))
  rw [List.pairwise_append]
  refine ⟨List.Pairwise.sublist (List.take_sublist _ _) h, ?_, ?_⟩
  · rw [List.pairwise_cons]
    exact ⟨aft, List.Pairwise.sublist (List.drop_sublist _ _) h⟩
  · intro a ha b hb
    rcases List.mem_cons.mp hb with q | q
    · rw [q]
      exact bef a ha
    · exact bhd_tr (bef a ha) (aft b q)
theorem srtA_srt0 : ∀ (rs ms : List AR), ms.Pairwise bhd → SrtR rs → (∀ x y, x ∈ ms → y ∈ rs → csg x.1 y.1 < 0) → (rs.foldl (fun ms r => insA r ms) ms).Pairwise bhd
  | [], ms, h, _, _ => h
  | r :: rs, ms, h, hS, hx => by
    obtain ⟨s1, s2⟩ := List.pairwise_cons.mp hS
    refine srtA_srt0 rs (insA r ms) (insA_srt h (fun x hm => hx x r hm List.mem_cons_self)) s2 (fun x y hm hy => ?_)
    rcases insA_mem.mp hm with q | q
    · rw [q]
      exact s1 y hy
    · exact hx x y q (List.mem_cons_of_mem _ hy)
theorem srtA_srt {rs : List AR} (hS : SrtR rs) : (srtA rs).Pairwise bhd := srtA_srt0 rs [] List.Pairwise.nil hS (fun x y hx => by cases hx)
