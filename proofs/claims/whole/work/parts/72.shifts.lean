/-! rows that are moved, and written over -/
def shr {α : Type} (A : List α) (lo hi d : Nat) : List α := A.take (lo + d) ++ (A.drop lo).take (hi - lo) ++ A.drop (hi + d)
def shl {α : Type} (A : List α) (lo hi d : Nat) : List α := A.take (lo - d) ++ (A.drop lo).take (hi - lo) ++ A.drop (hi - d)
def wrt {α : Type} (A : List α) (e : Nat) (l : List α) : List α := A.take e ++ l ++ A.drop (e + l.length)
section
variable {α : Type} {A : List α} {lo hi d e : Nat}
theorem shr_get (h1 : lo ≤ hi) (h2 : hi + d ≤ A.length) (j : Nat) : (shr A lo hi d)[j]? = if j < lo + d then A[j]? else if j < hi + d then A[j - d]? else A[j]? := by
  unfold shr
  have l1 : (A.take (lo + d)).length = lo + d := by rw [List.length_take]; omega
  have l2 : ((A.drop lo).take (hi - lo)).length = hi - lo := by rw [List.length_take, List.length_drop]; omega
  by_cases c1 : j < lo + d
  · rw [if_pos c1, List.append_assoc, List.getElem?_append_left (by omega), List.getElem?_take, if_pos c1]
  · rw [if_neg c1, List.append_assoc, List.getElem?_append_right (by omega), l1]
    by_cases c2 : j < hi + d
    · rw [if_pos c2, List.getElem?_append_left (by omega), List.getElem?_take, if_pos (by omega), List.getElem?_drop]
      congr 1
      omega
    · rw [if_neg c2, List.getElem?_append_right (by omega), l2, List.getElem?_drop]
      congr 1
      omega
theorem shr_len (h1 : lo ≤ hi) (h2 : hi + d ≤ A.length) : (shr A lo hi d).length = A.length := by
  unfold shr
  simp only [List.length_append, List.length_take, List.length_drop]
  omega
theorem shr_top : shr A hi hi d = A := by
  unfold shr
  rw [Nat.sub_self, List.take_zero, List.append_nil, List.take_append_drop]
theorem shr_step {k : Nat} {v : α} (h1 : k < hi) (h2 : hi + d ≤ A.length) (hv : A[k]? = some v) : (shr A (k + 1) hi d).set (k + d) v = shr A k hi d := by
  apply List.ext_getElem?
  intro j
  rw [List.getElem?_set, shr_len (by omega) h2, shr_get (by omega) h2, shr_get (by omega) h2]
  by_cases c : k + d = j
  · subst c
    rw [if_pos rfl, if_pos (by omega), if_neg (by omega), if_pos (by omega), ← hv]
    congr 1
    omega
  · rw [if_neg c]
    by_cases c1 : j < k + d
    · rw [if_pos (by omega), if_pos c1]
    · rw [if_neg (by omega), if_neg c1]
theorem shl_get (h0 : d ≤ lo) (h1 : lo ≤ hi) (h2 : hi ≤ A.length) (j : Nat) : (shl A lo hi d)[j]? = if j < lo - d then A[j]? else if j < hi - d then A[j + d]? else A[j]? := by
  unfold shl
  have l1 : (A.take (lo - d)).length = lo - d := by rw [List.length_take]; omega
  have l2 : ((A.drop lo).take (hi - lo)).length = hi - lo := by rw [List.length_take, List.length_drop]; omega
  by_cases c1 : j < lo - d
  · rw [if_pos c1, List.append_assoc, List.getElem?_append_left (by omega), List.getElem?_take, if_pos c1]
  · rw [if_neg c1, List.append_assoc, List.getElem?_append_right (by omega), l1]
    by_cases c2 : j < hi - d
    · rw [if_pos c2, List.getElem?_append_left (by omega), List.getElem?_take, if_pos (by omega), List.getElem?_drop]
      congr 1
      omega
    · rw [if_neg c2, List.getElem?_append_right (by omega), l2, List.getElem?_drop]
      congr 1
      omega
theorem shl_len (h0 : d ≤ lo) (h1 : lo ≤ hi) (h2 : hi ≤ A.length) : (shl A lo hi d).length = A.length := by
  unfold shl
  simp only [List.length_append, List.length_take, List.length_drop]
  omega
theorem shl_bot : shl A lo lo d = A := by
  unfold shl
  rw [Nat.sub_self, List.take_zero, List.append_nil, List.take_append_drop]
theorem shl_step {c : Nat} {v : α} (h0 : d ≤ lo) (h1 : lo ≤ c) (h2 : c < A.length) (hv : A[c]? = some v) : (shl A lo c d).set (c - d) v = shl A lo (c + 1) d := by
  apply List.ext_getElem?
  intro j
  rw [List.getElem?_set, shl_len h0 h1 (by omega), shl_get h0 h1 (by omega), shl_get h0 (by omega) (by omega)]
  by_cases q : c - d = j
  · subst q
    rw [if_pos rfl, if_pos (by omega), if_neg (by omega), if_pos (by omega), ← hv]
    congr 1
    omega
  · rw [if_neg q]
    by_cases c1 : j < lo - d
    · rw [if_pos c1, if_pos c1]
    · rw [if_neg c1, if_neg c1]
      by_cases c2 : j < c - d
      · rw [if_pos c2, if_pos (by omega)]
      · rw [if_neg c2, if_neg (by omega)]
theorem shl_same {c : Nat} (h0 : d ≤ lo) (h1 : lo ≤ c) (h2 : c ≤ A.length) : (shl A lo c d)[c]? = A[c]? := by
  rw [shl_get h0 h1 h2, if_neg (by omega)]
  by_cases q : c < c - d
  · omega
  · rw [if_neg q]
theorem wrt_get {l : List α} (h : e + l.length ≤ A.length) (j : Nat) : (wrt A e l)[j]? = if j < e then A[j]? else if j < e + l.length then l[j - e]? else A[j]? := by
  unfold wrt
  have l1 : (A.take e).length = e := by rw [List.length_take]; omega
  by_cases c1 : j < e
  · rw [if_pos c1, List.append_assoc, List.getElem?_append_left (by omega), List.getElem?_take, if_pos c1]
  · rw [if_neg c1, List.append_assoc, List.getElem?_append_right (by omega), l1]
    by_cases c2 : j < e + l.length
    · rw [if_pos c2, List.getElem?_append_left (by omega)]
    · rw [if_neg c2, List.getElem?_append_right (by omega), List.getElem?_drop]
      congr 1
      omega
theorem wrt_len {l : List α} (h : e + l.length ≤ A.length) : (wrt A e l).length = A.length := by
  unfold wrt
  simp only [List.length_append, List.length_take, List.length_drop]
  omega
theorem wrt_nil : wrt A e [] = A := by
  unfold wrt
  rw [List.append_nil, List.length_nil, Nat.add_zero, List.take_append_drop]
theorem wrt_step {l : List α} {k : Nat} {v : α} (hk : l[k]? = some v) (h : e + l.length ≤ A.length) : (wrt A e (l.take k)).set (e + k) v = wrt A e (l.take (k + 1)) := by
  have hkl := lt_of_some hk
  have l1 : (l.take k).length = k := by rw [List.length_take]; omega
  have l2 : (l.take (k + 1)).length = k + 1 := by rw [List.length_take]; omega
  apply List.ext_getElem?
  intro j
  rw [List.getElem?_set, wrt_len (by omega), wrt_get (by omega), wrt_get (by omega), l1, l2]
  by_cases q : e + k = j
  · subst q
    rw [if_pos rfl, if_pos (by omega), if_neg (by omega), if_pos (by omega), Nat.add_sub_cancel_left, List.getElem?_take, if_pos (by omega), hk]
  · rw [if_neg q]
    by_cases c1 : j < e
    · rw [if_pos c1, if_pos c1]
    · rw [if_neg c1, if_neg c1]
      by_cases c2 : j < e + k
      · rw [if_pos c2, if_pos (by omega), List.getElem?_take, List.getElem?_take, if_pos (by omega), if_pos (by omega)]
      · rw [if_neg c2, if_neg (by omega)]
end
/-- the rows of bytes hold bytes -/
def nrm (l : List Int32) : Prop := ∀ v, v ∈ l → b8 v = v
theorem nrm_get {l : List Int32} {i : Nat} {v : Int32} (h : nrm l) (hi : l[i]? = some v) : b8 v = v := h v (List.mem_of_getElem? hi)
theorem nrm_shr {A : List Int32} {lo hi d : Nat} (h : nrm A) : nrm (shr A lo hi d) := by
  intro v hv
  unfold shr at hv
  simp only [List.mem_append] at hv
  rcases hv with (q | q) | q
  · exact h v (List.mem_of_mem_take q)
  · exact h v (List.mem_of_mem_drop (List.mem_of_mem_take q))
  · exact h v (List.mem_of_mem_drop q)
theorem nrm_shl {A : List Int32} {lo hi d : Nat} (h : nrm A) : nrm (shl A lo hi d) := by
  intro v hv
  unfold shl at hv
  simp only [List.mem_append] at hv
  rcases hv with (q | q) | q
  · exact h v (List.mem_of_mem_take q)
  · exact h v (List.mem_of_mem_drop (List.mem_of_mem_take q))
  · exact h v (List.mem_of_mem_drop q)
theorem nrm_wrt {A l : List Int32} {e : Nat} (h : nrm A) (hl : nrm l) : nrm (wrt A e l) := by
  intro v hv
  unfold wrt at hv
  simp only [List.mem_append] at hv
  rcases hv with (q | q) | q
  · exact h v (List.mem_of_mem_take q)
  · exact hl v q
  · exact h v (List.mem_of_mem_drop q)
theorem nrm_set {A : List Int32} {i : Nat} {x : Int32} (h : nrm A) : nrm (A.set i (b8 x)) := by
  intro v hv
  rcases List.mem_or_eq_of_mem_set hv with q | q
  · exact h v q
  · rw [q]
    exact b8_b8 x
