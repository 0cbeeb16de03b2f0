/-! an abstract machine over whole numbers: cells by number, 'St' what they hold; the weakest condition of a stretch of code -/
/-- an int, a long, a cell by its number -/
abbrev AV : Type := Int ⊕ (Int ⊕ Nat)
abbrev St : Type := Nat → Int → Int
abbrev LL : Type := List (Option AV)
/-- nothing; a class and a slot; a number; a number of a method, of a place in the code, of a static array -/
abbrev Inf : Type := Unit ⊕ ((Nat × Nat) ⊕ (Int ⊕ Nat))
abbrev CE : Type := Nat × Instr × Nat × Inf
/-- the classes' numbers and slots, where the cells lie, the classes of int, long and boolean arrays, where the static arrays lie -/
abbrev Wd : Type := va_G × (Nat → Nat) × ClassId × ClassId × ClassId × (Nat → Nat)
def i32 (v : Int) : Int := (v + 2147483648) % 4294967296 - 2147483648
def i64 (v : Int) : Int := (v + 9223372036854775808) % 18446744073709551616 - 9223372036854775808
def iand (a b : Int) : Int := (Int32.ofInt a &&& Int32.ofInt b).toInt
def ior (a b : Int) : Int := (Int32.ofInt a ||| Int32.ofInt b).toInt
def ixor (a b : Int) : Int := (Int32.ofInt a ^^^ Int32.ofInt b).toInt
def ishl (a b : Int) : Int := (Int32.ofInt a <<< (Int32.ofInt b &&& 31)).toInt
def ishr (a b : Int) : Int := (Int32.ofInt a >>> (Int32.ofInt b &&& 31)).toInt
def iushr (a b : Int) : Int := ((Int32.ofInt a).toUInt32 >>> ((Int32.ofInt b).toUInt32 &&& Int32.toUInt32 31)).toInt32.toInt
def idiv (a b : Int) : Int := (Int32.ofInt a / Int32.ofInt b).toInt
def irem (a b : Int) : Int := (Int32.ofInt a - Int32.ofInt a / Int32.ofInt b * Int32.ofInt b).toInt
def jdiv (a b : Int) : Int := (Int64.ofInt a / Int64.ofInt b).toInt
def jrem (a b : Int) : Int := (Int64.ofInt a - Int64.ofInt a / Int64.ofInt b * Int64.ofInt b).toInt
def jushr (a b : Int) : Int := ((Int64.ofInt a).toUInt64 >>> ((Int32.ofInt b).toInt64.toUInt64 &&& Int64.toUInt64 63)).toInt64.toInt
def jcmp (a b : Int) : Int := if b < a then 1 else if a = b then 0 else -1
def up (S : St) (c : Nat) (j v : Int) : St := fun c' => if c' = c then (fun j' => if j' = j then v else S c j') else S c'
def cpS (S : St) (a : Nat) (sp : Int) (b : Nat) (dp n : Int) : St := fun c' => if c' = b then (fun j => if dp ≤ j ∧ j < dp + n then S a (sp + (j - dp)) else S b j) else S c'
/-! what lies on the stack, in the locals: by continuations, so that what is known is written out -/
def pI (st : List AV) (f : Int → List AV → Prop) : Prop := match st with | .inl a :: r => f a r | _ => False
def pII (st : List AV) (f : Int → Int → List AV → Prop) : Prop := match st with | .inl b :: .inl a :: r => f a b r | _ => False
def pJ (st : List AV) (f : Int → List AV → Prop) : Prop := match st with | .inr (.inl a) :: r => f a r | _ => False
def pJJ (st : List AV) (f : Int → Int → List AV → Prop) : Prop := match st with | .inr (.inl b) :: .inr (.inl a) :: r => f a b r | _ => False
def pIJ (st : List AV) (f : Int → Int → List AV → Prop) : Prop := match st with | .inl b :: .inr (.inl a) :: r => f a b r | _ => False
def pR (st : List AV) (f : Nat → List AV → Prop) : Prop := match st with | .inr (.inr c) :: r => f c r | _ => False
def pIR (st : List AV) (f : Int → Nat → List AV → Prop) : Prop := match st with | .inl i :: .inr (.inr c) :: r => f i c r | _ => False
def pN : Nat → List AV → List AV → (List AV → List AV → Prop) → Prop
  | 0, st, acc, f => f acc st
  | n + 1, v :: st, acc, f => pN n st (v :: acc) f
  | _ + 1, [], _, _ => False
def ldI : LL → Nat → (Int → Prop) → Prop
  | [], _, _ => False
  | x :: L, i, f => match i with
    | 0 => match x with
      | some (.inl a) => f a
      | _ => False
    | i + 1 => ldI L i f
def ldJ : LL → Nat → (Int → Prop) → Prop
  | [], _, _ => False
  | x :: L, i, f => match i with
    | 0 => match x with
      | some (.inr (.inl a)) => f a
      | _ => False
    | i + 1 => ldJ L i f
def ldR : LL → Nat → (Nat → Prop) → Prop
  | [], _, _ => False
  | x :: L, i, f => match i with
    | 0 => match x with
      | some (.inr (.inr a)) => f a
      | _ => False
    | i + 1 => ldR L i f
def clr (x : Option AV) (f : Option AV → Prop) : Prop := match x with | some (.inr (.inl _)) => f none | some (.inl a) => f (some (.inl a)) | some (.inr (.inr a)) => f (some (.inr (.inr a))) | none => f none
def st1 : LL → Nat → AV → (LL → Prop) → Prop
  | [], _, _, _ => False
  | x :: L, i, v, f => match i with
    | 0 => f (some v :: L)
    | i + 1 => match i with
      | 0 => match L with
        | [] => False
        | _ :: L => clr x (fun x => f (x :: some v :: L))
      | i + 1 => st1 L (i + 1) v (fun L => f (x :: L))
def st2 : LL → Nat → AV → (LL → Prop) → Prop
  | [], _, _, _ => False
  | x :: L, i, v, f => match i with
    | 0 => match L with
      | [] => False
      | _ :: L => f (some v :: none :: L)
    | i + 1 => match i with
      | 0 => match L with
        | [] => False
        | _ :: L => match L with
          | [] => False
          | _ :: L => clr x (fun x => f (x :: some v :: none :: L))
      | i + 1 => st2 L (i + 1) v (fun L => f (x :: L))
def padL : Nat → LL
  | 0 => []
  | n + 1 => none :: padL n
/-- the locals with which a method begins -/
def enL : List AV → Nat → (LL → Prop) → Prop
  | [], n, f => f (padL n)
  | .inr (.inl a) :: r, n + 2, f => enL r n (fun L => f (some (.inr (.inl a)) :: none :: L))
  | .inl a :: r, n + 1, f => enL r n (fun L => f (some (.inl a) :: L))
  | .inr (.inr a) :: r, n + 1, f => enL r n (fun L => f (some (.inr (.inr a)) :: L))
  | _, _, _ => False
def cat : AV → Nat
  | .inr (.inl _) => 2
  | _ => 1
def cats : List AV → Nat
  | [] => 0
  | v :: r => cat v + cats r
def inN (n : Nat) : List Nat → Bool
  | [] => false
  | a :: r => match Nat.beq n a with | true => true | false => inN n r
def jmpK : List CE → Nat → (List CE → Prop) → Prop
  | [], _, _ => False
  | e :: is, t, f => match Nat.beq e.1 t with | true => f (e :: is) | false => jmpK is t f
/-- a field is read -/
def getK (c ci k : Nat) (S : St) (f : AV → Prop) : Prop := match shp c with
  | .inl (ci', ks) => match Nat.beq ci ci' with
    | true => match ks[k]? with
      | some (0, _, _, j) => f (.inl (S c j))
      | some (1, _, _, j) => f (.inr (.inl (S c j)))
      | some (2, t, _, _) => f (.inr (.inr t))
      | some (3, _, _, j) => f (.inl (S c j))
      | some (4, a, b, j) => (S c j = 0 → f (.inr (.inr a))) ∧ (S c j = 1 → f (.inr (.inr b)))
      | _ => False
    | false => False
  | _ => False
/-- a field is written -/
def putK (st : List AV) (ci k : Nat) (S : St) (f : List AV → St → Prop) : Prop := match st with
  | v :: .inr (.inr c) :: r => match shp c with
    | .inl (ci', ks) => match Nat.beq ci ci' with
      | true => match ks[k]?, v with
        | some (0, _, _, j), .inl a => f r (up S c j a)
        | some (1, _, _, j), .inr (.inl a) => f r (up S c j a)
        | some (3, _, _, j), .inl a => (a = 0 ∨ a = 1) ∧ f r (up S c j a)
        | some (4, x, y, j), .inr (.inr t) => match Nat.beq t x with
          | true => f r (up S c j 0)
          | false => match Nat.beq t y with
            | true => f r (up S c j 1)
            | false => False
        | _, _ => False
      | false => False
    | _ => False
  | _ => False
/-- an element of an int array (0; 5: a static one) is read -/
def aldI (c : Nat) (i : Int) (S : St) (f : AV → Prop) : Prop := match shp c with
  | .inr (0, _, n) => (0 ≤ i ∧ i < n) ∧ f (.inl (S c i))
  | .inr (5, t, n) => (0 ≤ i ∧ i < n) ∧ f (.inl (cst t i))
  | _ => False
def aldJ (c : Nat) (i : Int) (S : St) (f : AV → Prop) : Prop := match shp c with
  | .inr (1, _, n) => (0 ≤ i ∧ i < n) ∧ f (.inr (.inl (S c i)))
  | _ => False
def aldZ (c : Nat) (i : Int) (S : St) (f : AV → Prop) : Prop := match shp c with
  | .inr (2, _, n) => (0 ≤ i ∧ i < n) ∧ f (.inl (S c i))
  | _ => False
def aldC (c : Nat) (i : Int) (f : AV → Prop) : Prop := match shp c with
  | .inr (6, t, n) => (0 ≤ i ∧ i < n) ∧ f (.inl (cst t i))
  | _ => False
def astI (st : List AV) (S : St) (f : List AV → St → Prop) : Prop := match st with
  | .inl v :: .inl i :: .inr (.inr c) :: r => match shp c with
    | .inr (0, _, n) => (0 ≤ i ∧ i < n) ∧ f r (up S c i v)
    | _ => False
  | _ => False
def astJ (st : List AV) (S : St) (f : List AV → St → Prop) : Prop := match st with
  | .inr (.inl v) :: .inl i :: .inr (.inr c) :: r => match shp c with
    | .inr (1, _, n) => (0 ≤ i ∧ i < n) ∧ f r (up S c i v)
    | _ => False
  | _ => False
def astZ (st : List AV) (S : St) (f : List AV → St → Prop) : Prop := match st with
  | .inl v :: .inl i :: .inr (.inr c) :: r => match shp c with
    | .inr (2, _, n) => (0 ≤ i ∧ i < n) ∧ (v = 0 ∨ v = 1) ∧ f r (up S c i v)
    | _ => False
  | _ => False
def alnK (c : Nat) (f : Int → Prop) : Prop := match shp c with
  | .inr (0, _, n) => f n
  | .inr (1, _, n) => f n
  | .inr (2, _, n) => f n
  | _ => False
def cpyK (lo : Nat) (st : List AV) (S : St) (f : List AV → St → Prop) : Prop := match st with
  | .inl n :: .inl dp :: .inr (.inr b) :: .inl sp :: .inr (.inr a) :: r => match shp a, shp b, Nat.ble (cats r + 18) lo with
    | .inr (0, _, la), .inr (0, _, lb), true => (0 ≤ sp ∧ 0 ≤ dp ∧ 0 ≤ n ∧ sp + n ≤ la ∧ dp + n ≤ lb) ∧ f r (cpS S a sp b dp n)
    | .inr (1, _, la), .inr (1, _, lb), true => (0 ≤ sp ∧ 0 ≤ dp ∧ 0 ≤ n ∧ sp + n ≤ la ∧ dp + n ≤ lb) ∧ f r (cpS S a sp b dp n)
    | _, _, _ => False
  | _ => False
def swT (x : Int) : Int → List Int → (Int → Prop) → Prop
  | _, [], _ => True
  | lo, o :: r, f => (x = lo → f o) ∧ swT x (lo + 1) r f
def swL (x : Int) : List (Int × Int) → Int → (Int → Prop) → Prop
  | [], d, f => f d
  | (a, o) :: r, d, f => (x = a → f o) ∧ (¬ x = a → swL x r d f)
def br0 (k : ClassFile.Cond) (a : Int) (f g : Prop) : Prop := match k with
  | .eq => (a = 0 → f) ∧ (¬ a = 0 → g)
  | .ne => (¬ a = 0 → f) ∧ (a = 0 → g)
  | .lt => (a < 0 → f) ∧ (0 ≤ a → g)
  | .ge => (0 ≤ a → f) ∧ (a < 0 → g)
  | .gt => (0 < a → f) ∧ (a ≤ 0 → g)
  | .le => (a ≤ 0 → f) ∧ (0 < a → g)
def br2 (k : ClassFile.Cond) (a b : Int) (f g : Prop) : Prop := match k with
  | .eq => (a = b → f) ∧ (¬ a = b → g)
  | .ne => (¬ a = b → f) ∧ (a = b → g)
  | .lt => (a < b → f) ∧ (b ≤ a → g)
  | .ge => (b ≤ a → f) ∧ (a < b → g)
  | .gt => (b < a → f) ∧ (a ≤ b → g)
  | .le => (a ≤ b → f) ∧ (b < a → g)
/-! the world: what the heap holds -/
def cv (ad : Nat → Nat) : AV → Value
  | .inl a => .int (Int32.ofInt a)
  | .inr (.inl a) => .long (Int64.ofInt a)
  | .inr (.inr c) => .ref (ad c)
def fv (ad : Nat → Nat) (k : Nat × Nat × Nat × Int) (v : Int) : Value := match k with
  | (1, _, _, _) => .long (Int64.ofInt v)
  | (2, t, _, _) => .ref (ad t)
  | (4, a, b, _) => .ref (ad (if v = 0 then a else b))
  | _ => .int (Int32.ofInt v)
def cellF (w : Wd) (c : Nat) (f : Int → Int) : va_E := match shp c with
  | .inl (ci, ks) => .inr (ci, ks.map (fun k => fv w.2.1 k (f k.2.2.2)))
  | .inr (1, n, _) => .inl (w.2.2.2.1, n, .inr (.inl (fun j => Int64.ofInt (f j))))
  | .inr (2, n, _) => .inl (w.2.2.2.2.1, n, .inl (fun j => Int32.ofInt (f j)))
  | .inr (_, n, _) => .inl (w.2.2.1, n, .inl (fun j => Int32.ofInt (f j)))
def cellE (w : Wd) (c : Nat) (S : St) : va_E := cellF w c (S c)
def wl (w : Wd) (S : St) : va_W := (List.range nC).map (fun c => (w.2.1 c, cellE w c S))
def inA (w : Wd) : Nat → Prop := fun q => ∃ c, c < nC ∧ q = w.2.1 c
def Wo (w : Wd) (S : St) (H : Heap) : Prop := va_P w.1 vwCl (wl w S) H
/-- numbers within their kinds -/
def cnK (t : Nat) (v : Int) : Prop := match t with
  | 0 => i32 v = v
  | 1 => i64 v = v
  | 2 => True
  | _ => v = 0 ∨ v = 1
def cnC (c : Nat) (j v : Int) : Prop := match shp c with
  | .inl (_, ks) => ∀ k ∈ ks, k.2.2.2 = j → cnK k.1 v
  | .inr (0, _) => cnK 0 v
  | .inr (1, _) => cnK 1 v
  | .inr (2, _) => cnK 3 v
  | _ => True
def Can (S : St) : Prop := ∀ (c : Nat) (j : Int), cnC c j (S c j)
def cnV : AV → Prop
  | .inl a => i32 a = a
  | .inr (.inl a) => i64 a = a
  | .inr (.inr _) => True
def cnL (L : LL) : Prop := ∀ v, some v ∈ L → cnV v
def cnS (st : List AV) : Prop := ∀ v ∈ st, cnV v
/-- the locals, as the machine has them -/
def al (ad : Nat → Nat) : Nat → LL → List (Nat × Value)
  | _, [] => []
  | i, none :: L => al ad (i + 1) L
  | i, some v :: L => (i, cv ad v) :: al ad (i + 1) L
def lvp (ad : Nat → Nat) (ls : Array Slot) (nL : Nat) (L : LL) : Prop := lv_has ls nL (al ad 0 L)
/-- the static arrays -/
def stK (w : Wd) (U : State) (H : Heap) : Prop :=
  (va_Z "FarKeys" "WITHOUT_ITEM" "[I" (.ref (w.2.2.2.2.2 0)) (inA w) U H ∧ va_T .int (w.2.2.2.2.2 0) 16 (fun j => .int (Int32.ofInt (cst 0 j))) (inA w) U H) ∧
  (va_Z "FarKeys" "ITEM_LETTERS" "[C" (.ref (w.2.2.2.2.2 1)) (inA w) U H ∧ va_T .char (w.2.2.2.2.2 1) 16 (fun j => .int (Int32.ofInt (cst 1 j))) (inA w) U H) ∧
  (va_Z "FarKeys" "LEAST_OF_ITEM" "[I" (.ref (w.2.2.2.2.2 2)) (inA w) U H ∧ va_T .int (w.2.2.2.2.2 2) 16 (fun j => .int (Int32.ofInt (cst 2 j))) (inA w) U H) ∧
  (va_Z "FarKeys" "MOST_OF_ITEM" "[I" (.ref (w.2.2.2.2.2 3)) (inA w) U H ∧ va_T .int (w.2.2.2.2.2 3) 16 (fun j => .int (Int32.ofInt (cst 3 j))) (inA w) U H)
/-- the numbers of static arrays among the cells' -/
def sA (n : Nat) : Nat := 144 + n
def adOk (w : Wd) : Prop := (∀ i j, i < nC → j < nC → w.2.1 i = w.2.1 j → i = j) ∧ ∀ n, n < 4 → w.2.1 (sA n) = w.2.2.2.2.2 n
def tyK (w : Wd) : List (ClassId × FieldType) := [(w.2.2.1, .int), (w.2.2.2.1, .long), (w.2.2.2.2.1, .boolean)]
/-- what a state's tables say, and what nobody writes -/
def Kx (w : Wd) (U : State) : Prop := va_K w.1 vwCl (tyK w) U ∧ stK w U U.heap ∧ ∀ q ∈ slL, va_Nw (.fieldLinkNest (clN q.1) q.2.1 "FarKeys" (stN q.2.2.1).1 (stN q.2.2.1).2 "FarKeys") U
def rmO (h : Hd) : Room := { frames := h.2.2.2.2.2.1, cells := 0, slots := 0, locals := h.2.2.2.2.2.2.1 }
def Ctx (w : Wd) (h : Hd) (p : Program) (s : State) (m : MethodId) (args : Array Value) (meth : Method) (c : Code) : Prop :=
  p.tables.exec = Jvm.exec ∧ c.code = h.2.2.1 ∧ meth.sig.returnType = h.2.2.2.2.1 ∧ c.maxLocals = h.2.2.2.1 ∧ s.vm.findClass (clN h.1) = some m.cls ∧ (∀ w ∈ G, w.before args s = true) ∧ meth.locks = false ∧ Kx w s ∧ adOk w
def cnO (r : Option AV) : Prop := ∀ v, r = some v → cnV v
def Qcf (w : Wd) (Q : Option AV → St → Prop) : Array Value → State → Outcome → State → Prop := fun _ st o t =>
  (∃ r S, Q r S ∧ o = .returned (r.map (cv w.2.1)) ∧ Can S ∧ cnO r ∧ Wo w S t.heap ∧ st.vm.Alike t.vm) ∧ va_F (inA w) st t
def Cfg (w : Wd) (h : Hd) (s : State) (H : Heap) (locs : List Loc) (ls : Array Slot) (L : LL) (st : List AV) (S : St) : Prop :=
  Wo w S H ∧ Can S ∧ cnL L ∧ cnS st ∧ va_S (inA w) s.heap H locs ∧ lvp w.2.1 ls h.2.2.2.1 L
/-- from this place on, with these locals, this stack, this state, the method ends with Q -/
def Smm (h : Hd) (pc : Nat) (L : LL) (st : List AV) (S : St) (Q : Option AV → St → Prop) : Prop :=
  ∀ (w : Wd) (p : Program) (l : Launch) (e : Env) (s : State) (m : MethodId) (args : Array Value) (below : List Frame) (meth : Method) (c : Code),
    Ctx w h p s m args meth c → ∀ (H : Heap) (locs : List Loc) (ls : Array Slot), Cfg w h s H locs ls L st S →
      W p l e (rmO h) s m args below meth c H locs 0 0 (MQ below (Qcf w Q) args s 0 0 (inA w)) (F0 m pc ls (st.map (cv w.2.1)))
/-- a call: the callee with its arguments, then what goes on -/
def calK (h : Hd) (no : Nat) (st : List AV) (S : St) (f : List AV → St → Prop) : Prop := match hdTab no with
  | (oc, nm, by_, ml, rt, fr, lo, rc, np) => match Nat.ble (fr + 1) h.2.2.2.2.2.1, Nat.ble (19 + ml + lo) h.2.2.2.2.2.2.1 with
    | true, true => match rc with
      | 0 => pN np st [] (fun as r => match Nat.ble (cats r) 8 with
        | true => enL as ml (fun L => Smm (oc, nm, by_, ml, rt, fr, lo, rc, np) 0 L [] S (fun v S => f (v.toList ++ r) S))
        | false => False)
      | _ => pN np st [] (fun as r => pR r (fun c r => match shp c with
        | .inl (ci, _) => match Nat.beq ci oc, Nat.ble (cats r) 8 with
          | true, true => enL (.inr (.inr c) :: as) ml (fun L => Smm (oc, nm, by_, ml, rt, fr, lo, rc, np) 0 L [] S (fun v S => f (v.toList ++ r) S))
          | _, _ => False
        | _ => False))
    | _, _ => False
abbrev KT : Type := List CE → LL → List AV → St → Prop
def stepP (h : Hd) (Q : Option AV → St → Prop) (cd : List CE) (k : KT) (e : CE) (is : List CE) (L : LL) (st : List AV) (S : St) : Prop :=
  match e.2.1 with
  | .iload i => ldI L i (fun a => k is L (.inl a :: st) S)
  | .iload_n i => ldI L i.val (fun a => k is L (.inl a :: st) S)
  | .lload i => ldJ L i (fun a => k is L (.inr (.inl a) :: st) S)
  | .lload_n i => ldJ L i.val (fun a => k is L (.inr (.inl a) :: st) S)
  | .aload i => ldR L i (fun a => k is L (.inr (.inr a) :: st) S)
  | .aload_n i => ldR L i.val (fun a => k is L (.inr (.inr a) :: st) S)
  | .istore i => pI st (fun a r => st1 L i (.inl a) (fun L => k is L r S))
  | .istore_n i => pI st (fun a r => st1 L i.val (.inl a) (fun L => k is L r S))
  | .astore i => pR st (fun a r => st1 L i (.inr (.inr a)) (fun L => k is L r S))
  | .astore_n i => pR st (fun a r => st1 L i.val (.inr (.inr a)) (fun L => k is L r S))
  | .lstore i => pJ st (fun a r => st2 L i (.inr (.inl a)) (fun L => k is L r S))
  | .lstore_n i => pJ st (fun a r => st2 L i.val (.inr (.inl a)) (fun L => k is L r S))
  | .iinc i n => ldI L i (fun a => st1 L i (.inl (i32 (a + n))) (fun L => k is L st S))
  | .iconst n => k is L (.inl n :: st) S
  | .bipush n => k is L (.inl n :: st) S
  | .sipush n => k is L (.inl n :: st) S
  | .lconst n => k is L (.inr (.inl (n.val : Int)) :: st) S
  | .ldc _ => match e.2.2.2 with | .inr (.inr (.inl v)) => k is L (.inl v :: st) S | _ => False
  | .ldc_w _ => match e.2.2.2 with | .inr (.inr (.inl v)) => k is L (.inl v :: st) S | _ => False
  | .ldc2_w _ => match e.2.2.2 with | .inr (.inr (.inl v)) => k is L (.inr (.inl v) :: st) S | _ => False
  | .iadd => pII st (fun a b r => k is L (.inl (i32 (a + b)) :: r) S)
  | .isub => pII st (fun a b r => k is L (.inl (i32 (a - b)) :: r) S)
  | .imul => pII st (fun a b r => k is L (.inl (i32 (a * b)) :: r) S)
  | .ineg => pI st (fun a r => k is L (.inl (i32 (-a)) :: r) S)
  | .iand => pII st (fun a b r => k is L (.inl (iand a b) :: r) S)
  | .ior => pII st (fun a b r => k is L (.inl (ior a b) :: r) S)
  | .ixor => pII st (fun a b r => k is L (.inl (ixor a b) :: r) S)
  | .ishl => pII st (fun a b r => k is L (.inl (ishl a b) :: r) S)
  | .ishr => pII st (fun a b r => k is L (.inl (ishr a b) :: r) S)
  | .iushr => pII st (fun a b r => k is L (.inl (iushr a b) :: r) S)
  | .idiv => pII st (fun a b r => ¬ b = 0 ∧ k is L (.inl (idiv a b) :: r) S)
  | .irem => pII st (fun a b r => ¬ b = 0 ∧ k is L (.inl (irem a b) :: r) S)
  | .ladd => pJJ st (fun a b r => k is L (.inr (.inl (i64 (a + b))) :: r) S)
  | .lsub => pJJ st (fun a b r => k is L (.inr (.inl (i64 (a - b))) :: r) S)
  | .lmul => pJJ st (fun a b r => k is L (.inr (.inl (i64 (a * b))) :: r) S)
  | .ldiv => pJJ st (fun a b r => ¬ b = 0 ∧ k is L (.inr (.inl (jdiv a b)) :: r) S)
  | .lrem => pJJ st (fun a b r => ¬ b = 0 ∧ k is L (.inr (.inl (jrem a b)) :: r) S)
  | .lushr => pIJ st (fun a b r => k is L (.inr (.inl (jushr a b)) :: r) S)
  | .lcmp => pJJ st (fun a b r => k is L (.inl (jcmp a b) :: r) S)
  | .i2l => pI st (fun a r => k is L (.inr (.inl a) :: r) S)
  | .l2i => pJ st (fun a r => k is L (.inl (i32 a) :: r) S)
  | .dup => match st with | .inl a :: r => k is L (.inl a :: .inl a :: r) S | .inr (.inr a) :: r => k is L (.inr (.inr a) :: .inr (.inr a) :: r) S | _ => False
  | .dup2 => pIR st (fun i c r => k is L (.inl i :: .inr (.inr c) :: .inl i :: .inr (.inr c) :: r) S)
  | .pop => match st with | .inl _ :: r => k is L r S | .inr (.inr _) :: r => k is L r S | _ => False
  | .goto _ => match e.2.2.2 with | .inr (.inr (.inr t)) => jmpK cd t (fun is => k is L st S) | _ => False
  | .ifCond q _ => match e.2.2.2 with | .inr (.inr (.inr t)) => pI st (fun a r => br0 q a (jmpK cd t (fun is => k is L r S)) (k is L r S)) | _ => False
  | .if_icmp q _ => match e.2.2.2 with | .inr (.inr (.inr t)) => pII st (fun a b r => br2 q a b (jmpK cd t (fun is => k is L r S)) (k is L r S)) | _ => False
  | .tableswitch d lo hi offs => pI st (fun a r => ((a < lo ∨ hi < a) → jmpK cd ((e.1 : Int) + d).toNat (fun is => k is L r S)) ∧ swT a lo offs.toList (fun o => jmpK cd ((e.1 : Int) + o).toNat (fun is => k is L r S)))
  | .lookupswitch d ps => pI st (fun a r => swL a ps.toList d (fun o => jmpK cd ((e.1 : Int) + o).toNat (fun is => k is L r S)))
  | .getfield _ => match e.2.2.2 with | .inr (.inl (ci, j)) => pR st (fun c r => getK c ci j S (fun v => k is L (v :: r) S)) | _ => False
  | .putfield _ => match e.2.2.2 with | .inr (.inl (ci, j)) => putK st ci j S (fun r S => k is L r S) | _ => False
  | .getstatic _ => match e.2.2.2 with | .inr (.inr (.inr n)) => k is L (.inr (.inr (sA n)) :: st) S | _ => False
  | .iaload => pIR st (fun i c r => aldI c i S (fun v => k is L (v :: r) S))
  | .laload => pIR st (fun i c r => aldJ c i S (fun v => k is L (v :: r) S))
  | .baload => pIR st (fun i c r => aldZ c i S (fun v => k is L (v :: r) S))
  | .caload => pIR st (fun i c r => aldC c i (fun v => k is L (v :: r) S))
  | .iastore => astI st S (fun r S => k is L r S)
  | .lastore => astJ st S (fun r S => k is L r S)
  | .bastore => astZ st S (fun r S => k is L r S)
  | .arraylength => pR st (fun c r => alnK c (fun n => k is L (.inl n :: r) S))
  | .invokevirtual _ => match e.2.2.2 with | .inr (.inr (.inr n)) => calK h n st S (fun r S => k is L r S) | _ => False
  | .invokestatic _ => match e.2.2.2 with
    | .inr (.inr (.inr n)) => calK h n st S (fun r S => k is L r S)
    | .inl _ => cpyK h.2.2.2.2.2.2.1 st S (fun r S => k is L r S)
    | .inr (.inl (0, _)) => pII st (fun a b r => match Nat.ble (cats r + 13) h.2.2.2.2.2.2.1 with | true => k is L (.inl (max a b) :: r) S | false => False)
    | .inr (.inl (1, _)) => pII st (fun a b r => match Nat.ble (cats r + 13) h.2.2.2.2.2.2.1 with | true => k is L (.inl (min a b) :: r) S | false => False)
    | _ => False
  | .ireturn => match st, h.2.2.2.2.1 with
    | [.inl a], some .int => Q (some (.inl a)) S
    | [.inl a], some .boolean => (a = 0 ∨ a = 1) ∧ Q (some (.inl a)) S
    | _, _ => False
  | .lreturn => match st, h.2.2.2.2.1 with
    | [.inr (.inl a)], some .long => Q (some (.inr (.inl a))) S
    | _, _ => False
  | .areturn => match st, h.2.2.2.2.1 with
    | [.inr (.inr a)], some (.object _) => Q (some (.inr (.inr a))) S
    | _, _ => False
  | .return_ => match st, h.2.2.2.2.1 with
    | [], none => Q none S
    | _, _ => False
  | _ => False
def wp (h : Hd) (Q : Option AV → St → Prop) (cd : List CE) (stops : List Nat) : Nat → KT
  | _, [], _, _, _ => False
  | 0, e :: _, L, st, S => Smm h e.1 L st S Q
  | n + 1, e :: is, L, st, S => match inN e.1 stops with
    | true => Smm h e.1 L st S Q
    | false => stepP h Q cd (wp h Q cd stops n) e is L st S
/-- from a place on, till one of the stops -/
def run (h : Hd) (Q : Option AV → St → Prop) (cd : List CE) (stops : List Nat) (n pc : Nat) (L : LL) (st : List AV) (S : St) : Prop :=
  jmpK cd pc (fun is => match is with
    | [] => False
    | e :: is => stepP h Q cd (wp h Q cd stops n) e is L st S)
