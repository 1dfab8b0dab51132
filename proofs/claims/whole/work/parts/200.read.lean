/-! THE PURE READER: bytes as a list of integers, values as nodes (type, name, start, place, holder) in the order of the bytes; a value's end is what its bytes say ('bh') -/
abbrev Nd : Type := Int × Int × Nat × Nat × Int
abbrev Rs : Type := Nat × List Nd × List Nat
def by_ (B : List Int) (p : Nat) : Int := B.getD p (-1)
def nd (N : List Nd) (k : Nat) : Nd := N.getD k (0, 0, 0, 0, -1)
def rTy (N : List Nd) (k : Nat) : Int := (nd N k).1
def rNm (N : List Nd) (k : Nat) : Int := (nd N k).2.1
def rSt (N : List Nd) (k : Nat) : Nat := (nd N k).2.2.1
def rPl (N : List Nd) (k : Nat) : Nat := (nd N k).2.2.2.1
def rPa (N : List Nd) (k : Nat) : Int := (nd N k).2.2.2.2
def bh (B : List Int) (t : Int) (v : Nat) : Nat := if t = 1 then v + 2 else if t = 2 then v + 1 + (by_ B v).toNat else if t = 5 then v + 1 else if t = 6 then v else v + (by_ B v).toNat
def rEn (B : List Int) (N : List Nd) (k : Nat) : Nat := bh B (rTy N k) (rPl N k)
def rb (B : List Int) (lo hi : Int) : Nat → Nat → Nat ⊕ Nat
  | 0, p => .inr p
  | k + 1, p => if lo ≤ by_ B p ∧ by_ B p ≤ hi then rb B lo hi k (p + 1) else .inl p
def rdC (B : List Int) (t : Int) (p : Nat) : Nat ⊕ Nat :=
  if t = 1 then rb B 0 255 2 p
  else if t = 2 then (match rb B 0 8 1 p with
    | .inl f => .inl f
    | .inr q => rb B 32 126 (by_ B p).toNat q)
  else if t = 5 then rb B 0 1 1 p
  else if t = 6 then .inr p
  else rb B 0 255 1 p
def rdL (B : List Int) : Nat → Bool → Int → Nat → Nat ⊕ (Int × Nat)
  | 0, _, x, p => .inr (x, p)
  | r + 1, f, x, p => if f = false ∧ by_ B p = 0 then .inr (x, p) else if 97 ≤ by_ B p ∧ by_ B p ≤ 122 then rdL B r false (x * 256 + by_ B p) (p + 1) else .inl p
def hasNm (N : List Nd) (o x : Int) : Bool := (List.range N.length).any fun k => decide (rPa N k = o ∧ rNm N k = x)
def rdN (B : List Int) (N : List Nd) (o : Int) (p : Nat) : Nat ⊕ (Int × Nat) := match rdL B 4 true 0 p with
  | .inl f => .inl f
  | .inr (x, q) => if by_ B q = 0 then (if hasNm N o x = true then .inl p else .inr (x, q + 1)) else .inl q
def opn (S : List Nat) : Int := match S with
  | [] => -1
  | c :: _ => c
def rdH (B : List Int) (P : Rs) : Nat ⊕ (Int × Int × Nat) :=
  if (by_ B P.1 = 3 ∨ by_ B P.1 = 4) ∧ 4 ≤ P.2.2.length then .inl P.1
  else if 1 ≤ by_ B P.1 ∧ by_ B P.1 ≤ 6 then (match P.2.2 with
    | [] => .inr (by_ B P.1, 0, P.1 + 1)
    | c :: _ => if rTy P.2.1 c = 3 then (match rdN B P.2.1 (c : Int) (P.1 + 1) with
      | .inl f => .inl f
      | .inr (x, q) => .inr (by_ B P.1, x, q)) else .inr (by_ B P.1, 0, P.1 + 1))
  else .inl P.1
def rdV (B : List Int) (P : Rs) (t x : Int) (s p : Nat) : Nat ⊕ Rs := match rdC B t p with
  | .inl f => .inl f
  | .inr q => .inr (q, P.2.1 ++ [(t, x, s, p, opn P.2.2)], if t = 3 ∨ t = 4 then P.2.1.length :: P.2.2 else P.2.2)
def rdP (B : List Int) (P : Rs) : Nat ⊕ Rs := match rdH B P with
  | .inl f => .inl f
  | .inr (t, x, q) => rdV B P t x P.1 q
def rdX (B : List Int) (P : Rs) (c : Nat) (r : List Nat) : Nat ⊕ Rs := if by_ B (rPl P.2.1 c) = (P.1 : Int) + 1 - (rPl P.2.1 c : Int) then .inr (P.1 + 1, P.2.1, r) else .inl (rPl P.2.1 c)
def rdS (B : List Int) (P : Rs) : Nat ⊕ Rs := match P.2.2 with
  | [] => .inr P
  | c :: r => if by_ B P.1 = 0 then rdX B P c r else rdP B P
def rdO (B : List Int) : Nat → Rs → Nat ⊕ Rs
  | 0, P => .inr P
  | f + 1, P => match P.2.2 with
    | [] => .inr P
    | _ :: _ => match rdS B P with
      | .inl e => .inl e
      | .inr P' => rdO B f P'
def rdE (B : List Int) : Nat ⊕ Rs → Nat ⊕ List Nd
  | .inl f => .inl f
  | .inr P => if P.1 < B.length then .inl P.1 else .inr P.2.1
def rdD (B : List Int) : Nat ⊕ List Nd := rdE B (match rdV B (0, [], []) 3 0 0 0 with
  | .inl f => .inl f
  | .inr P => rdO B B.length P)
def rdQ (B : List Int) : Nat ⊕ List Nd := rdE B (match rdP B (0, [], []) with
  | .inl f => .inl f
  | .inr P => rdO B B.length P)
/-! what it gives -/
def pk (ls : List Int) : Int := ls.foldl (fun a y => a * 256 + y) 0
def NmAt (B : List Int) (p : Nat) (x : Int) (q : Nat) : Prop := ∃ ls : List Int, 1 ≤ ls.length ∧ ls.length ≤ 4 ∧ (∀ y ∈ ls, 97 ≤ y ∧ y ≤ 122) ∧ (∀ i, i < ls.length → by_ B (p + i) = ls.getD i 0) ∧ by_ B (p + ls.length) = 0 ∧ q = p + ls.length + 1 ∧ x = pk ls
def kids (N : List Nd) (c : Nat) : List Nat := (List.range N.length).filter (fun k => decide (rPa N k = (c : Int)))
def Chn (B : List Int) (N : List Nd) : List Nat → Nat → Nat → Prop
  | [], a, z => a = z
  | k :: r, a, z => rSt N k = a ∧ Chn B N r (rEn B N k) z
def isC (t : Int) : Prop := t = 3 ∨ t = 4
/-- a node by itself: its holder is before it; its type's byte, its name, its place; what a plain value's bytes are -/
def NdOk (B : List Int) (N : List Nd) (k : Nat) : Prop := 1 ≤ rTy N k ∧ rTy N k ≤ 6 ∧ -1 ≤ rPa N k ∧
  (∀ c : Nat, rPa N k = (c : Int) → c < k ∧ isC (rTy N c) ∧ by_ B (rSt N k) = rTy N k ∧ (rTy N c = 3 → NmAt B (rSt N k + 1) (rNm N k) (rPl N k)) ∧ (rTy N c = 4 → rPl N k = rSt N k + 1 ∧ rNm N k = 0)) ∧
  (rTy N k = 2 → 0 ≤ by_ B (rPl N k) ∧ by_ B (rPl N k) ≤ 8) ∧ (isC (rTy N k) → 0 ≤ by_ B (rPl N k))
/-- the open ones, the innermost first: t the one within, z where one is -/
def Ost (B : List Int) (N : List Nd) : List Nat → List Nat → Nat → Prop
  | [], _, _ => True
  | c :: r, t, z => c < N.length ∧ isC (rTy N c) ∧ rPa N c = opn r ∧ rPl N c + 1 ≤ z ∧ (∃ ks, kids N c = ks ++ t ∧ Chn B N ks (rPl N c + 1) z) ∧ Ost B N r [c] (rSt N c)
def Cls (B : List Int) (N : List Nd) (S : List Nat) (z : Nat) : Prop := ∀ c, c < N.length → c ∉ S → rEn B N c ≤ z ∧ (isC (rTy N c) → Chn B N (kids N c) (rPl N c + 1) (rEn B N c - 1) ∧ by_ B (rEn B N c - 1) = 0 ∧ rPl N c + 2 ≤ rEn B N c)
/-- names differ within a document -/
def Dif (N : List Nd) : Prop := ∀ i j, i < j → j < N.length → rPa N i = rPa N j → ∀ c : Nat, rPa N i = (c : Int) → rTy N c = 3 → rNm N i ≠ rNm N j
def RInv (B : List Int) (P : Rs) : Prop := P.1 ≤ B.length ∧ P.2.1.length ≤ P.1 ∧ (∀ k, k < P.2.1.length → NdOk B P.2.1 k) ∧ Ost B P.2.1 P.2.2 [] P.1 ∧ Cls B P.2.1 P.2.2 P.1 ∧ Dif P.2.1 ∧ P.2.2.length ≤ 4 ∧ P.2.2.Nodup
