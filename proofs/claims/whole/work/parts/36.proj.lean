theorem p_qn_wI {g : Gh} {j a : Nat} {v : Int32} : qn (wI g j a v) = qn g := rfl
theorem p_qs_wI {g : Gh} {j a : Nat} {v : Int32} : qs (wI g j a v) = qs g := rfl
theorem p_qk_wI {g : Gh} {j a : Nat} {v : Int32} : qk (wI g j a v) = qk g := rfl
theorem p_qi_wI {g : Gh} {j a : Nat} {v : Int32} : qi (wI g j a v) = u2 (qi g) j a v := rfl
theorem p_qr_wI {g : Gh} {j a : Nat} {v : Int32} : qr (wI g j a v) = qr g := rfl
theorem p_qB_wI {g : Gh} {j a : Nat} {v : Int32} : qB (wI g j a v) = qB g := rfl
theorem p_qC_wI {g : Gh} {j a : Nat} {v : Int32} : qC (wI g j a v) = qC g := rfl
theorem p_qL_wI {g : Gh} {j a : Nat} {v : Int32} : qL (wI g j a v) = qL g := rfl
theorem p_qE_wI {g : Gh} {j a : Nat} {v : Int32} : qE (wI g j a v) = qE g := rfl
theorem p_qA_wI {g : Gh} {j a : Nat} {v : Int32} : qA (wI g j a v) = qA g := rfl
theorem p_qW_wI {g : Gh} {j a : Nat} {v : Int32} : qW (wI g j a v) = qW g := rfl
theorem p_qn_wR {g : Gh} {j a b : Nat} : qn (wR g j a b) = qn g := rfl
theorem p_qs_wR {g : Gh} {j a b : Nat} : qs (wR g j a b) = qs g := rfl
theorem p_qk_wR {g : Gh} {j a b : Nat} : qk (wR g j a b) = qk g := rfl
theorem p_qi_wR {g : Gh} {j a b : Nat} : qi (wR g j a b) = qi g := rfl
theorem p_qr_wR {g : Gh} {j a b : Nat} : qr (wR g j a b) = u2 (qr g) j a b := rfl
theorem p_qB_wR {g : Gh} {j a b : Nat} : qB (wR g j a b) = qB g := rfl
theorem p_qC_wR {g : Gh} {j a b : Nat} : qC (wR g j a b) = qC g := rfl
theorem p_qL_wR {g : Gh} {j a b : Nat} : qL (wR g j a b) = qL g := rfl
theorem p_qE_wR {g : Gh} {j a b : Nat} : qE (wR g j a b) = qE g := rfl
theorem p_qA_wR {g : Gh} {j a b : Nat} : qA (wR g j a b) = qA g := rfl
theorem p_qW_wR {g : Gh} {j a b : Nat} : qW (wR g j a b) = qW g := rfl
theorem p_qn_wB {g : Gh} {b : Nat} {l : List Int32} : qn (wB g b l) = qn g + (if l.length ≤ qC g b then 0 else 1) := rfl
theorem p_qs_wB {g : Gh} {b : Nat} {l : List Int32} : qs (wB g b l) = qs g + (if l.length ≤ qC g b then 0 else gcap (qC g b) l.length) := rfl
theorem p_qk_wB {g : Gh} {b : Nat} {l : List Int32} : qk (wB g b l) = qk g := rfl
theorem p_qi_wB {g : Gh} {b : Nat} {l : List Int32} : qi (wB g b l) = qi g := rfl
theorem p_qr_wB {g : Gh} {b : Nat} {l : List Int32} : qr (wB g b l) = qr g := rfl
theorem p_qB_wB {g : Gh} {b : Nat} {l : List Int32} : qB (wB g b l) = va_up (qB g) b l := rfl
theorem p_qC_wB {g : Gh} {b : Nat} {l : List Int32} : qC (wB g b l) = va_up (qC g) b (gcap (qC g b) l.length) := rfl
theorem p_qL_wB {g : Gh} {b : Nat} {l : List Int32} : qL (wB g b l) = qL g := rfl
theorem p_qE_wB {g : Gh} {b : Nat} {l : List Int32} : qE (wB g b l) = qE g := rfl
theorem p_qA_wB {g : Gh} {b : Nat} {l : List Int32} : qA (wB g b l) = qA g := rfl
theorem p_qW_wB {g : Gh} {b : Nat} {l : List Int32} : qW (wB g b l) = qW g := rfl
theorem p_qn_wX {g : Gh} {b : Nat} {l : List Int32} : qn (wX g b l) = qn g := rfl
theorem p_qs_wX {g : Gh} {b : Nat} {l : List Int32} : qs (wX g b l) = qs g := rfl
theorem p_qk_wX {g : Gh} {b : Nat} {l : List Int32} : qk (wX g b l) = qk g := rfl
theorem p_qi_wX {g : Gh} {b : Nat} {l : List Int32} : qi (wX g b l) = qi g := rfl
theorem p_qr_wX {g : Gh} {b : Nat} {l : List Int32} : qr (wX g b l) = qr g := rfl
theorem p_qB_wX {g : Gh} {b : Nat} {l : List Int32} : qB (wX g b l) = va_up (qB g) b l := rfl
theorem p_qC_wX {g : Gh} {b : Nat} {l : List Int32} : qC (wX g b l) = qC g := rfl
theorem p_qL_wX {g : Gh} {b : Nat} {l : List Int32} : qL (wX g b l) = qL g := rfl
theorem p_qE_wX {g : Gh} {b : Nat} {l : List Int32} : qE (wX g b l) = qE g := rfl
theorem p_qA_wX {g : Gh} {b : Nat} {l : List Int32} : qA (wX g b l) = qA g := rfl
theorem p_qW_wX {g : Gh} {b : Nat} {l : List Int32} : qW (wX g b l) = qW g := rfl
theorem p_qn_wL {g : Gh} {a : Nat} {l : List Nat} : qn (wL g a l) = qn g + (if l.length ≤ qE g a then 0 else 1) := rfl
theorem p_qs_wL {g : Gh} {a : Nat} {l : List Nat} : qs (wL g a l) = qs g + (if l.length ≤ qE g a then 0 else ecap (qE g a) l.length) := rfl
theorem p_qk_wL {g : Gh} {a : Nat} {l : List Nat} : qk (wL g a l) = qk g := rfl
theorem p_qi_wL {g : Gh} {a : Nat} {l : List Nat} : qi (wL g a l) = qi g := rfl
theorem p_qr_wL {g : Gh} {a : Nat} {l : List Nat} : qr (wL g a l) = qr g := rfl
theorem p_qB_wL {g : Gh} {a : Nat} {l : List Nat} : qB (wL g a l) = qB g := rfl
theorem p_qC_wL {g : Gh} {a : Nat} {l : List Nat} : qC (wL g a l) = qC g := rfl
theorem p_qL_wL {g : Gh} {a : Nat} {l : List Nat} : qL (wL g a l) = va_up (qL g) a l := rfl
theorem p_qE_wL {g : Gh} {a : Nat} {l : List Nat} : qE (wL g a l) = va_up (qE g) a (ecap (qE g a) l.length) := rfl
theorem p_qA_wL {g : Gh} {a : Nat} {l : List Nat} : qA (wL g a l) = qA g := rfl
theorem p_qW_wL {g : Gh} {a : Nat} {l : List Nat} : qW (wL g a l) = qW g := rfl
theorem p_qn_wl {g : Gh} {a : Nat} {l : List Nat} : qn (wl g a l) = qn g := rfl
theorem p_qs_wl {g : Gh} {a : Nat} {l : List Nat} : qs (wl g a l) = qs g := rfl
theorem p_qk_wl {g : Gh} {a : Nat} {l : List Nat} : qk (wl g a l) = qk g := rfl
theorem p_qi_wl {g : Gh} {a : Nat} {l : List Nat} : qi (wl g a l) = qi g := rfl
theorem p_qr_wl {g : Gh} {a : Nat} {l : List Nat} : qr (wl g a l) = qr g := rfl
theorem p_qB_wl {g : Gh} {a : Nat} {l : List Nat} : qB (wl g a l) = qB g := rfl
theorem p_qC_wl {g : Gh} {a : Nat} {l : List Nat} : qC (wl g a l) = qC g := rfl
theorem p_qL_wl {g : Gh} {a : Nat} {l : List Nat} : qL (wl g a l) = va_up (qL g) a l := rfl
theorem p_qE_wl {g : Gh} {a : Nat} {l : List Nat} : qE (wl g a l) = qE g := rfl
theorem p_qA_wl {g : Gh} {a : Nat} {l : List Nat} : qA (wl g a l) = qA g := rfl
theorem p_qW_wl {g : Gh} {a : Nat} {l : List Nat} : qW (wl g a l) = qW g := rfl
theorem p_qn_wA {g : Gh} {a : Nat} {l : List Int32} : qn (wA g a l) = qn g := rfl
theorem p_qs_wA {g : Gh} {a : Nat} {l : List Int32} : qs (wA g a l) = qs g := rfl
theorem p_qk_wA {g : Gh} {a : Nat} {l : List Int32} : qk (wA g a l) = qk g := rfl
theorem p_qi_wA {g : Gh} {a : Nat} {l : List Int32} : qi (wA g a l) = qi g := rfl
theorem p_qr_wA {g : Gh} {a : Nat} {l : List Int32} : qr (wA g a l) = qr g := rfl
theorem p_qB_wA {g : Gh} {a : Nat} {l : List Int32} : qB (wA g a l) = qB g := rfl
theorem p_qC_wA {g : Gh} {a : Nat} {l : List Int32} : qC (wA g a l) = qC g := rfl
theorem p_qL_wA {g : Gh} {a : Nat} {l : List Int32} : qL (wA g a l) = qL g := rfl
theorem p_qE_wA {g : Gh} {a : Nat} {l : List Int32} : qE (wA g a l) = qE g := rfl
theorem p_qA_wA {g : Gh} {a : Nat} {l : List Int32} : qA (wA g a l) = va_up (qA g) a l := rfl
theorem p_qW_wA {g : Gh} {a : Nat} {l : List Int32} : qW (wA g a l) = qW g := rfl
theorem p_qn_wW {g : Gh} {a : Nat} {l : List Int64} : qn (wW g a l) = qn g := rfl
theorem p_qs_wW {g : Gh} {a : Nat} {l : List Int64} : qs (wW g a l) = qs g := rfl
theorem p_qk_wW {g : Gh} {a : Nat} {l : List Int64} : qk (wW g a l) = qk g := rfl
theorem p_qi_wW {g : Gh} {a : Nat} {l : List Int64} : qi (wW g a l) = qi g := rfl
theorem p_qr_wW {g : Gh} {a : Nat} {l : List Int64} : qr (wW g a l) = qr g := rfl
theorem p_qB_wW {g : Gh} {a : Nat} {l : List Int64} : qB (wW g a l) = qB g := rfl
theorem p_qC_wW {g : Gh} {a : Nat} {l : List Int64} : qC (wW g a l) = qC g := rfl
theorem p_qL_wW {g : Gh} {a : Nat} {l : List Int64} : qL (wW g a l) = qL g := rfl
theorem p_qE_wW {g : Gh} {a : Nat} {l : List Int64} : qE (wW g a l) = qE g := rfl
theorem p_qA_wW {g : Gh} {a : Nat} {l : List Int64} : qA (wW g a l) = qA g := rfl
theorem p_qW_wW {g : Gh} {a : Nat} {l : List Int64} : qW (wW g a l) = va_up (qW g) a l := rfl
theorem p_qn_wO {g : Gh} {c N : Nat} : qn (wO g c N) = qn g + 1 := rfl
theorem p_qs_wO {g : Gh} {c N : Nat} : qs (wO g c N) = qs g + N := rfl
theorem p_qk_wO {g : Gh} {c N : Nat} : qk (wO g c N) = va_up (qk g) (qn g) (c + 1) := rfl
theorem p_qi_wO {g : Gh} {c N : Nat} : qi (wO g c N) = (fun j a => if j / 100 = c ∧ a = qn g then 0 else qi g j a) := rfl
theorem p_qr_wO {g : Gh} {c N : Nat} : qr (wO g c N) = (fun j a => if j / 100 = c ∧ a = qn g then 0 else qr g j a) := rfl
theorem p_qB_wO {g : Gh} {c N : Nat} : qB (wO g c N) = qB g := rfl
theorem p_qC_wO {g : Gh} {c N : Nat} : qC (wO g c N) = qC g := rfl
theorem p_qL_wO {g : Gh} {c N : Nat} : qL (wO g c N) = qL g := rfl
theorem p_qE_wO {g : Gh} {c N : Nat} : qE (wO g c N) = qE g := rfl
theorem p_qA_wO {g : Gh} {c N : Nat} : qA (wO g c N) = qA g := rfl
theorem p_qW_wO {g : Gh} {c N : Nat} : qW (wO g c N) = qW g := rfl
theorem p_qn_wNB {g : Gh}  : qn (wNB g ) = qn g + 2 := rfl
theorem p_qs_wNB {g : Gh}  : qs (wNB g ) = qs g + 18 := rfl
theorem p_qk_wNB {g : Gh}  : qk (wNB g ) = va_up (qk g) (qn g) 5 := rfl
theorem p_qi_wNB {g : Gh}  : qi (wNB g ) = qi g := rfl
theorem p_qr_wNB {g : Gh}  : qr (wNB g ) = qr g := rfl
theorem p_qB_wNB {g : Gh}  : qB (wNB g ) = va_up (qB g) (qn g) [] := rfl
theorem p_qC_wNB {g : Gh}  : qC (wNB g ) = va_up (qC g) (qn g) 16 := rfl
theorem p_qL_wNB {g : Gh}  : qL (wNB g ) = qL g := rfl
theorem p_qE_wNB {g : Gh}  : qE (wNB g ) = qE g := rfl
theorem p_qA_wNB {g : Gh}  : qA (wNB g ) = qA g := rfl
theorem p_qW_wNB {g : Gh}  : qW (wNB g ) = qW g := rfl
theorem p_qn_wNL {g : Gh}  : qn (wNL g ) = qn g + 1 := rfl
theorem p_qs_wNL {g : Gh}  : qs (wNL g ) = qs g + 3 := rfl
theorem p_qk_wNL {g : Gh}  : qk (wNL g ) = va_up (qk g) (qn g) 3 := rfl
theorem p_qi_wNL {g : Gh}  : qi (wNL g ) = qi g := rfl
theorem p_qr_wNL {g : Gh}  : qr (wNL g ) = qr g := rfl
theorem p_qB_wNL {g : Gh}  : qB (wNL g ) = qB g := rfl
theorem p_qC_wNL {g : Gh}  : qC (wNL g ) = qC g := rfl
theorem p_qL_wNL {g : Gh}  : qL (wNL g ) = va_up (qL g) (qn g) [] := rfl
theorem p_qE_wNL {g : Gh}  : qE (wNL g ) = va_up (qE g) (qn g) 0 := rfl
theorem p_qA_wNL {g : Gh}  : qA (wNL g ) = qA g := rfl
theorem p_qW_wNL {g : Gh}  : qW (wNL g ) = qW g := rfl
theorem p_qn_wF {g : Gh} {f : Nat → Nat → Int32} : qn (wF g f) = qn g := rfl
theorem p_qs_wF {g : Gh} {f : Nat → Nat → Int32} : qs (wF g f) = qs g := rfl
theorem p_qk_wF {g : Gh} {f : Nat → Nat → Int32} : qk (wF g f) = qk g := rfl
theorem p_qi_wF {g : Gh} {f : Nat → Nat → Int32} : qi (wF g f) = f := rfl
theorem p_qr_wF {g : Gh} {f : Nat → Nat → Int32} : qr (wF g f) = qr g := rfl
theorem p_qB_wF {g : Gh} {f : Nat → Nat → Int32} : qB (wF g f) = qB g := rfl
theorem p_qC_wF {g : Gh} {f : Nat → Nat → Int32} : qC (wF g f) = qC g := rfl
theorem p_qL_wF {g : Gh} {f : Nat → Nat → Int32} : qL (wF g f) = qL g := rfl
theorem p_qE_wF {g : Gh} {f : Nat → Nat → Int32} : qE (wF g f) = qE g := rfl
theorem p_qA_wF {g : Gh} {f : Nat → Nat → Int32} : qA (wF g f) = qA g := rfl
theorem p_qW_wF {g : Gh} {f : Nat → Nat → Int32} : qW (wF g f) = qW g := rfl
theorem vup {α : Type} {f : Nat → α} {k j : Nat} {v : α} : va_up f k v j = if j = k then v else f j := rfl
theorem ecap_4 {c m : Nat} (h : m ≤ c + 1) : (if m ≤ c then 0 else ecap c m) + 4 * c ≤ 4 * ecap c m ∧ (if m ≤ c then 0 else 1) + c ≤ ecap c m ∧ (m ≤ c → ecap c m = c) := by
  unfold ecap
  split
  · omega
  · split
    · omega
    · omega
theorem ecap_5 {c m : Nat} : 2 * ecap c m ≤ 2 * c ∨ 2 * ecap c m ≤ 3 * m + 20 := by
  unfold ecap
  split
  · omega
  · split
    · omega
    · omega
theorem gcap_2 {c m : Nat} (h16 : 16 ≤ c) : (if m ≤ c then 0 else gcap c m) + 2 * c ≤ 2 * gcap c m ∧ 16 * (if m ≤ c then 0 else 1) ≤ (if m ≤ c then 0 else gcap c m) ∧ (m ≤ c → gcap c m = c) := by
  unfold gcap
  split
  · omega
  · omega
