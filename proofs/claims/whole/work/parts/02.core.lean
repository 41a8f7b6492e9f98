/-! the machine's heap as a value: the size, the kind of each cell of ours, lengths, fields by number and address, rows of ints, longs and references, the slots in use -/
abbrev Hp : Type := Nat × (Nat → Nat) × (Nat → Nat) × (Nat → Nat → Value) × (Nat → Nat → Int32) × (Nat → Nat → Int64) × (Nat → Nat → Option Nat) × Nat
def hn (h : Hp) : Nat := h.1
def kd (h : Hp) : Nat → Nat := h.2.1
def ln (h : Hp) : Nat → Nat := h.2.2.1
def fd (h : Hp) : Nat → Nat → Value := h.2.2.2.1
def ar (h : Hp) : Nat → Nat → Int32 := h.2.2.2.2.1
def la (h : Hp) : Nat → Nat → Int64 := h.2.2.2.2.2.1
def ra (h : Hp) : Nat → Nat → Option Nat := h.2.2.2.2.2.2.1
def sl (h : Hp) : Nat := h.2.2.2.2.2.2.2
def u2 {α : Type} (f : Nat → Nat → α) (a i : Nat) (v : α) : Nat → Nat → α := fun b j => if b = a ∧ j = i then v else f b j
def sF (h : Hp) (j a : Nat) (v : Value) : Hp := (hn h, kd h, ln h, u2 (fd h) j a v, ar h, la h, ra h, sl h)
def sA (h : Hp) (a i : Nat) (v : Int32) : Hp := (hn h, kd h, ln h, fd h, u2 (ar h) a i v, la h, ra h, sl h)
def sL (h : Hp) (a i : Nat) (v : Int64) : Hp := (hn h, kd h, ln h, fd h, ar h, u2 (la h) a i v, ra h, sl h)
def sO (h : Hp) (a i : Nat) (v : Option Nat) : Hp := (hn h, kd h, ln h, fd h, ar h, la h, u2 (ra h) a i v, sl h)
def sR (h : Hp) (a : Nat) (f : Nat → Int32) : Hp := (hn h, kd h, ln h, fd h, va_up (ar h) a f, la h, ra h, sl h)
def sQ (h : Hp) (a : Nat) (f : Nat → Option Nat) : Hp := (hn h, kd h, ln h, fd h, ar h, la h, va_up (ra h) a f, sl h)
/-- the fields that hold references, by number -/
def rfF : List Nat := [201, 300, 400, 500, 501, 600, 601, 602, 700, 800, 801, 802, 803, 900, 901, 1000, 1100, 1101, 1102, 1103, 1104, 1105, 1106, 1107, 1203, 1205, 1206, 1207, 1209, 1210, 1211, 1213, 1215, 1217, 1227, 1228, 1229, 1230, 1231, 1232, 1238, 1239, 1240, 1241, 1244, 1248, 1249, 1250, 1251, 1252]
def dF (j : Nat) : Value := if j ∈ rfF then .null else .int 0
/-- a new object of class ci, a new row of kind k -/
def nO (h : Hp) (ci N : Nat) : Hp := (hn h + 1, va_up (kd h) (hn h) (ci + 1), ln h, (fun j a => if a = hn h then dF j else fd h j a), ar h, la h, ra h, sl h + N)
def nA (h : Hp) (k n : Nat) : Hp := (hn h + 1, va_up (kd h) (hn h) k, va_up (ln h) (hn h) n, fd h, va_up (ar h) (hn h) (fun _ => 0), va_up (la h) (hn h) (fun _ => 0), va_up (ra h) (hn h) (fun _ => none), sl h + n)
/-! programs over it: what they do, and that the heap only grows -/
def M (α : Type) : Type := { f : Hp → Option (α × Hp) // ∀ h v h', f h = some (v, h') → hn h ≤ hn h' ∧ sl h ≤ sl h' }
def pu {α : Type} (v : α) : M α := ⟨fun h => some (v, h), fun h w h' e => by cases e; exact ⟨Nat.le_refl _, Nat.le_refl _⟩⟩
def fl {α : Type} : M α := ⟨fun _ => none, fun h w h' e => by cases e⟩
def bq {α β : Type} (q : Option (α × Hp)) (k : α → Hp → Option (β × Hp)) : Option (β × Hp) := match q with
  | none => none
  | some (v, h1) => k v h1
def bd {α β : Type} (x : M α) (k : α → M β) : M β := ⟨fun h => bq (x.1 h) (fun v h1 => (k v).1 h1), fun h w h' e => by
  dsimp only at e
  cases hx : x.1 h with
  | none => rw [hx] at e; cases e
  | some q =>
    obtain ⟨v, h1⟩ := q
    rw [hx] at e
    exact ⟨Nat.le_trans (x.2 _ _ _ hx).1 ((k v).2 _ _ _ e).1, Nat.le_trans (x.2 _ _ _ hx).2 ((k v).2 _ _ _ e).2⟩⟩
def rd {α : Type} (f : Hp → Option α) : M α := ⟨fun h => (f h).map (fun v => (v, h)), fun h w h' e => by
  dsimp only at e
  cases hx : f h with
  | none => rw [hx] at e; cases e
  | some q => rw [hx] at e; cases e; exact ⟨Nat.le_refl _, Nat.le_refl _⟩⟩
def md {α : Type} (c : Hp → Bool) (g : Hp → α × Hp) (hg : ∀ h, hn h ≤ hn (g h).2 ∧ sl h ≤ sl (g h).2) : M α := ⟨fun h => if c h = true then some (g h) else none, fun h w h' e => by
  dsimp only at e
  split at e
  · have q := hg h
    rw [Option.some.inj e] at q
    exact q
  · cases e⟩
def it {α : Type} (c : Prop) [Decidable c] (x y : M α) : M α := if c then x else y
/-- by what a reference is: null, or an address -/
def co {α : Type} (r : Option Nat) (x : M α) (y : Nat → M α) : M α := match r with
  | none => x
  | some a => y a
def nn {α : Type} (r : Option Nat) (y : Nat → M α) : M α := co r fl y
def vI (v : Value) : Option Int32 := match v with
  | .int x => some x
  | _ => none
def vR (v : Value) : Option Nat := match v with
  | .ref x => some x
  | _ => none
def gI (ci k a : Nat) : M Int32 := rd (fun h => if kd h a = ci + 1 then vI (fd h (100 * ci + k) a) else none)
def gR (ci k a : Nat) : M Nat := rd (fun h => if kd h a = ci + 1 then vR (fd h (100 * ci + k) a) else none)
def pV (ci k a : Nat) (v : Value) : M Unit := md (fun h => kd h a == ci + 1) (fun h => ((), sF h (100 * ci + k) a v)) (fun _ => ⟨Nat.le_refl _, Nat.le_refl _⟩)
def pZ (ci k a : Nat) (x : Int32) : M Unit := md (fun h => kd h a == ci + 1 && (x == 0 || x == 1)) (fun h => ((), sF h (100 * ci + k) a (.int x))) (fun _ => ⟨Nat.le_refl _, Nat.le_refl _⟩)
def nw (ci N : Nat) : M Nat := md (fun _ => true) (fun h => (hn h, nO h ci N)) (fun _ => ⟨Nat.le_succ _, Nat.le_add_right _ _⟩)
def na (k : Nat) (n : Int32) : M Nat := md (fun _ => decide (0 ≤ n ∧ n ≤ 60000)) (fun h => (hn h, nA h k n.toNatClampNeg)) (fun _ => ⟨Nat.le_succ _, Nat.le_add_right _ _⟩)
def inx (i : Int32) (n : Nat) : Bool := decide (0 ≤ i ∧ i.toNatClampNeg < n)
/-- the element of a row of bytes (21) or ints (22) -/
def al (k a : Nat) (i : Int32) : M Int32 := rd (fun h => if kd h a = k ∧ inx i (ln h a) = true then some (ar h a i.toNatClampNeg) else none)
def ao (a : Nat) (i : Int32) : M Nat := rd (fun h => if kd h a = 24 ∧ inx i (ln h a) = true then ra h a i.toNatClampNeg else none)
def ll (a : Nat) (i : Int32) : M Int64 := rd (fun h => if kd h a = 23 ∧ inx i (ln h a) = true then some (la h a i.toNatClampNeg) else none)
def as (k a : Nat) (i x : Int32) : M Unit := md (fun h => kd h a == k && inx i (ln h a)) (fun h => ((), sA h a i.toNatClampNeg (if k = 21 then x.toInt8.toInt32 else x))) (fun _ => ⟨Nat.le_refl _, Nat.le_refl _⟩)
def lz (a : Nat) (i : Int32) (x : Int64) : M Unit := md (fun h => kd h a == 23 && inx i (ln h a)) (fun h => ((), sL h a i.toNatClampNeg x)) (fun _ => ⟨Nat.le_refl _, Nat.le_refl _⟩)
def okO (h : Hp) (r : Option Nat) : Bool := match r with
  | none => true
  | some b => kd h b == 4 || kd h b == 8 || kd h b == 11
def az (a : Nat) (i : Int32) (r : Option Nat) : M Unit := md (fun h => kd h a == 24 && inx i (ln h a) && okO h r) (fun h => ((), sO h a i.toNatClampNeg r)) (fun _ => ⟨Nat.le_refl _, Nat.le_refl _⟩)
/-- a row's length (25: the empty row of all new lists) -/
def ay (a : Nat) : M Int32 := rd (fun h => if kd h a = 25 then some 0 else if 21 ≤ kd h a ∧ kd h a ≤ 24 then some (nI (ln h a)) else none)
def ck (ci a : Nat) : M Unit := rd (fun h => if kd h a = ci + 1 then some () else none)
def cpok (h : Hp) (k a : Nat) (i : Int32) (b : Nat) (j n : Int32) : Bool := kd h a == k && kd h b == k && decide (0 ≤ i ∧ 0 ≤ j ∧ 0 ≤ n ∧ i.toNatClampNeg + n.toNatClampNeg ≤ ln h a ∧ j.toNatClampNeg + n.toNatClampNeg ≤ ln h b)
/-- System.arraycopy of bytes, of references -/
def cb (a : Nat) (i : Int32) (b : Nat) (j n : Int32) : M Unit := md (fun h => cpok h 21 a i b j n) (fun h => ((), sR h b (va_cpy (ar h a) (ar h b) i.toNatClampNeg j.toNatClampNeg n.toNatClampNeg))) (fun _ => ⟨Nat.le_refl _, Nat.le_refl _⟩)
def cr (a : Nat) (i : Int32) (b : Nat) (j n : Int32) : M Unit := md (fun h => cpok h 24 a i b j n) (fun h => ((), sQ h b (va_cpy (ra h a) (ra h b) i.toNatClampNeg j.toNatClampNeg n.toNatClampNeg))) (fun _ => ⟨Nat.le_refl _, Nat.le_refl _⟩)
/-- what the sum's table holds -/
def sumT (j : Nat) : Int32 := ([0, 498536548, 997073096, 651767980, 1994146192, 1802195444, 1303535960, 1342533948, -306674912, -267414716, -690576408, -882789492, -1687895376, -2032938284, -1609899400, -1111625188] : List Int32).getD j 0
def tb (i : Int32) : M Int32 := rd (fun _ => if inx i 16 = true then some (sumT i.toNatClampNeg) else none)
/-- the empty row's address, kept where no field is -/
def ge : M Nat := rd (fun h => vR (fd h 99 0))
/-- the loops' fuel -/
def FU : Nat := 1000000
