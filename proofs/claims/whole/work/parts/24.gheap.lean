/-! a second, plainer heap: what is inside of a Bytes is a list, what is inside of an ArrayList is a list; their rows are hidden -/
abbrev Gh : Type := Nat × Nat × (Nat → Nat) × (Nat → Nat → Int32) × (Nat → Nat → Nat) × (Nat → List Int32) × (Nat → Nat) × (Nat → List Nat) × (Nat → Nat) × (Nat → List Int32) × (Nat → List Int64)
def qn (g : Gh) : Nat := g.1
def qs (g : Gh) : Nat := g.2.1
def qk (g : Gh) : Nat → Nat := g.2.2.1
def qi (g : Gh) : Nat → Nat → Int32 := g.2.2.2.1
def qr (g : Gh) : Nat → Nat → Nat := g.2.2.2.2.1
def qB (g : Gh) : Nat → List Int32 := g.2.2.2.2.2.1
def qC (g : Gh) : Nat → Nat := g.2.2.2.2.2.2.1
def qL (g : Gh) : Nat → List Nat := g.2.2.2.2.2.2.2.1
def qE (g : Gh) : Nat → Nat := g.2.2.2.2.2.2.2.2.1
def qA (g : Gh) : Nat → List Int32 := g.2.2.2.2.2.2.2.2.2.1
def qW (g : Gh) : Nat → List Int64 := g.2.2.2.2.2.2.2.2.2.2
/-- the class's numbers of fields: int fields, reference fields of the plain classes -/
def gIk (c k : Nat) : Bool := decide (3 ≤ c) && decide (c ≤ 12) && decide (c ≠ 4) && decide (k < 100) && !(rfF.elem (100 * c + k))
def gRk (c k : Nat) : Bool := decide (3 ≤ c) && decide (c ≤ 12) && decide (c ≠ 4) && decide (k < 100) && (rfF.elem (100 * c + k))
/-- how rows grow -/
def gcap (c m : Nat) : Nat := if m ≤ c then c else max m (2 * c)
def ecap (c m : Nat) : Nat := if m ≤ c then c else if c = 0 then max 10 m else c + max (m - c) (c / 2)
def wI (g : Gh) (j a : Nat) (v : Int32) : Gh := (qn g, qs g, qk g, u2 (qi g) j a v, qr g, qB g, qC g, qL g, qE g, qA g, qW g)
def wR (g : Gh) (j a b : Nat) : Gh := (qn g, qs g, qk g, qi g, u2 (qr g) j a b, qB g, qC g, qL g, qE g, qA g, qW g)
def wB (g : Gh) (b : Nat) (l : List Int32) : Gh := (qn g + (if l.length ≤ qC g b then 0 else 1), qs g + (if l.length ≤ qC g b then 0 else gcap (qC g b) l.length), qk g, qi g, qr g, va_up (qB g) b l, va_up (qC g) b (gcap (qC g b) l.length), qL g, qE g, qA g, qW g)
def wL (g : Gh) (a : Nat) (l : List Nat) : Gh := (qn g + (if l.length ≤ qE g a then 0 else 1), qs g + (if l.length ≤ qE g a then 0 else ecap (qE g a) l.length), qk g, qi g, qr g, qB g, qC g, va_up (qL g) a l, va_up (qE g) a (ecap (qE g a) l.length), qA g, qW g)
def wA (g : Gh) (a : Nat) (l : List Int32) : Gh := (qn g, qs g, qk g, qi g, qr g, qB g, qC g, qL g, qE g, va_up (qA g) a l, qW g)
def wW (g : Gh) (a : Nat) (l : List Int64) : Gh := (qn g, qs g, qk g, qi g, qr g, qB g, qC g, qL g, qE g, qA g, va_up (qW g) a l)
/-- a new object of a plain class, a new Bytes, a new list, a new row of the reference's -/
def wO (g : Gh) (c N : Nat) : Gh := (qn g + 1, qs g + N, va_up (qk g) (qn g) (c + 1), (fun j a => if j / 100 = c ∧ a = qn g then 0 else qi g j a), (fun j a => if j / 100 = c ∧ a = qn g then 0 else qr g j a), qB g, qC g, qL g, qE g, qA g, qW g)
def wNB (g : Gh) : Gh := (qn g + 2, qs g + 18, va_up (qk g) (qn g) 5, qi g, qr g, va_up (qB g) (qn g) [], va_up (qC g) (qn g) 16, qL g, qE g, qA g, qW g)
def wNL (g : Gh) : Gh := (qn g + 1, qs g + 3, va_up (qk g) (qn g) 3, qi g, qr g, qB g, qC g, va_up (qL g) (qn g) [], va_up (qE g) (qn g) 0, qA g, qW g)
def wNA (g : Gh) (k n : Nat) : Gh := (qn g + 1, qs g + n, va_up (qk g) (qn g) k, qi g, qr g, qB g, qC g, qL g, qE g, va_up (qA g) (qn g) (List.replicate n 0), va_up (qW g) (qn g) (List.replicate n 0))
/-! the one heap is the other -/
def abK (h : Hp) (g : Gh) : Prop := hn h = qn g ∧ sl h = qs g ∧ ∀ a, qk g a ≠ 0 → kd h a = qk g a ∧ a < qn g
def abI (h : Hp) (g : Gh) : Prop := ∀ a c k, qk g a = c + 1 → gIk c k = true → fd h (100 * c + k) a = .int (qi g (100 * c + k) a)
def abR (h : Hp) (g : Gh) : Prop := ∀ a c k, qk g a = c + 1 → gRk c k = true → fd h (100 * c + k) a = .ref (qr g (100 * c + k) a) ∨ fd h (100 * c + k) a = .null ∧ qr g (100 * c + k) a = 0
def abB1 (w : Nat → Nat) (h : Hp) (g : Gh) (b r : Nat) : Prop := fd h 400 b = .ref r ∧ fd h 401 b = .int (nI (qB g b).length) ∧ kd h r = 21 ∧ qk g r = 0 ∧ r < qn g ∧ w r = b ∧ ln h r = qC g b ∧ (qB g b).length ≤ qC g b ∧ qC g b ≤ 60000 ∧ 16 ≤ qC g b ∧ ∀ i, i < (qB g b).length → (qB g b)[i]? = some (ar h r i)
def abB (w : Nat → Nat) (h : Hp) (g : Gh) : Prop := ∀ b, qk g b = 5 → ∃ r, abB1 w h g b r
def abL1 (w : Nat → Nat) (h : Hp) (g : Gh) (a e : Nat) : Prop := (∃ z, fd h 200 a = .int z) ∧ fd h 201 a = .ref e ∧ fd h 202 a = .int (nI (qL g a).length) ∧ ((qL g a = [] ∧ qE g a = 0 ∧ kd h e = 25 ∧ fd h 99 0 = .ref e) ∨ (kd h e = 24 ∧ qk g e = 0 ∧ e < qn g ∧ w e = a ∧ ln h e = qE g a ∧ (qL g a).length ≤ qE g a ∧ 0 < qE g a ∧ qE g a ≤ 60000 ∧ ∀ i, i < (qL g a).length → (qL g a)[i]? = ra h e i))
def abL (w : Nat → Nat) (h : Hp) (g : Gh) : Prop := ∀ a, qk g a = 3 → ∃ e, abL1 w h g a e
def abA (h : Hp) (g : Gh) : Prop := ∀ a, qk g a = 21 ∨ qk g a = 22 → ln h a = (qA g a).length ∧ (qA g a).length ≤ 60000 ∧ ∀ i, i < (qA g a).length → (qA g a)[i]? = some (ar h a i)
def abW (h : Hp) (g : Gh) : Prop := ∀ a, qk g a = 23 → ln h a = (qW g a).length ∧ (qW g a).length ≤ 60000 ∧ ∀ i, i < (qW g a).length → (qW g a)[i]? = some (la h a i)
def abE (h : Hp) (g : Gh) : Prop := ∃ e : Nat, fd h 99 0 = .ref e ∧ kd h e = 25 ∧ qk g e = 0 ∧ e < qn g
def Abw (w : Nat → Nat) (h : Hp) (g : Gh) : Prop := abK h g ∧ abI h g ∧ abR h g ∧ abB w h g ∧ abL w h g ∧ abA h g ∧ abW h g ∧ abE h g
def Abs (h : Hp) (g : Gh) : Prop := ∃ w, Abw w h g
/-- from g on the program ends, where Q says -/
def ok {α : Type} (x : M α) (g : Gh) (Q : α → Gh → Prop) : Prop := ∀ h, Abs h g → ∃ v h' g', x.1 h = some (v, h') ∧ Abs h' g' ∧ Q v g'
section
variable {α β : Type} {g : Gh} {Q : α → Gh → Prop}
theorem ok_pu {v : α} (hq : Q v g) : ok (pu v) g Q := fun h ha => ⟨v, h, g, rfl, ha, hq⟩
theorem ok_bd {x : M β} {k : β → M α} (hx : ok x g (fun v g1 => ok (k v) g1 Q)) : ok (bd x k) g Q := by
  intro h ha
  obtain ⟨v, h1, g1, e1, a1, q1⟩ := hx h ha
  obtain ⟨u, h2, g2, e2, a2, q2⟩ := q1 h1 a1
  refine ⟨u, h2, g2, ?_, a2, q2⟩
  show bq (x.1 h) _ = _
  rw [e1]
  exact e2
theorem ok_mono {x : M α} {P : α → Gh → Prop} (hx : ok x g P) (hm : ∀ v g1, P v g1 → Q v g1) : ok x g Q := fun h ha => by
  obtain ⟨v, h1, g1, e1, a1, q1⟩ := hx h ha
  exact ⟨v, h1, g1, e1, a1, hm _ _ q1⟩
theorem ok_bpu {v : β} {k : β → M α} (hx : ok (k v) g Q) : ok (bd (pu v) k) g Q := ok_bd (ok_pu hx)
theorem ok_itT {c : Prop} [Decidable c] {x y : M α} (hc : c) (hx : ok x g Q) : ok (it c x y) g Q := by
  show ok (if c then x else y) g Q
  rw [if_pos hc]
  exact hx
theorem ok_itF {c : Prop} [Decidable c] {x y : M α} (hc : ¬ c) (hx : ok y g Q) : ok (it c x y) g Q := by
  show ok (if c then x else y) g Q
  rw [if_neg hc]
  exact hx
theorem ok_it {c : Prop} [Decidable c] {x y : M α} (h1 : c → ok x g Q) (h2 : ¬ c → ok y g Q) : ok (it c x y) g Q := by
  by_cases hc : c
  · exact ok_itT hc (h1 hc)
  · exact ok_itF hc (h2 hc)
/-- a read that leaves all as it was -/
theorem ok_rd {x : M β} {k : β → M α} (v : β) (hx : ∀ h, Abs h g → x.1 h = some (v, h)) (hk : ok (k v) g Q) : ok (bd x k) g Q := ok_bd (fun h ha => ⟨v, h, g, hx h ha, ha, hk⟩)
theorem ok_wr {x : M β} {k : β → M α} (v : β) (g1 : Gh) (hx : ∀ h, Abs h g → ∃ h1, x.1 h = some (v, h1) ∧ Abs h1 g1) (hk : ok (k v) g1 Q) : ok (bd x k) g Q := ok_bd (fun h ha => by
  obtain ⟨h1, e1, a1⟩ := hx h ha
  exact ⟨v, h1, g1, e1, a1, hk⟩)
theorem ok_ck {c a : Nat} {k : Unit → M α} (hk : qk g a = c + 1) (hx : ok (k ()) g Q) : ok (bd (ck c a) k) g Q := by
  refine ok_rd () (fun h ha => ?_) hx
  obtain ⟨w, a1, _⟩ := ha
  have e := (a1.2.2 a (by omega)).1
  show (if kd h a = c + 1 then some () else none).map _ = _
  rw [if_pos (e.trans hk)]
  rfl
theorem ok_gI {c n a : Nat} {k : Int32 → M α} (hk : qk g a = c + 1) {v : Int32} (hv : qi g (100 * c + n) a = v) (hx : ok (k v) g Q) (hd : gIk c n = true := by rfl) : ok (bd (gI c n a) k) g Q := by
  refine ok_rd v (fun h ha => ?_) hx
  obtain ⟨w, a1, a2, _⟩ := ha
  have e := (a1.2.2 a (by omega)).1
  show (if kd h a = c + 1 then vI (fd h (100 * c + n) a) else none).map _ = _
  rw [if_pos (e.trans hk), a2 a c n hk hd, hv]
  rfl
theorem ok_gR {c n a : Nat} {k : Nat → M α} (hk : qk g a = c + 1) {v : Nat} (hv : qr g (100 * c + n) a = v) (h0 : v ≠ 0) (hx : ok (k v) g Q) (hd : gRk c n = true := by rfl) : ok (bd (gR c n a) k) g Q := by
  refine ok_rd v (fun h ha => ?_) hx
  obtain ⟨w, a1, _, a3, _⟩ := ha
  have e := (a1.2.2 a (by omega)).1
  show (if kd h a = c + 1 then vR (fd h (100 * c + n) a) else none).map _ = _
  rw [if_pos (e.trans hk)]
  rcases a3 a c n hk hd with q | ⟨_, q⟩
  · rw [q, hv]
    rfl
  · exact absurd (hv.symm.trans q) h0
end
