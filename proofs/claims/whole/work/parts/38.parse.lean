/-! WHAT A STREAM SAYS: codes and images, as both programs hear them. -/
def zfill (l : Nat → Nat) (a n v : Nat) : Nat → Nat := fun k => if a ≤ k ∧ k < a + n then v else l k
/-- how often a length comes, by the small code's symbol -/
def pTimes (B : Nat → Int32) (N t p : Nat) : Option (Nat × Nat) :=
  if t = 16 then (pNum B N 2 p).map fun q => (3 + q.1, q.2) else if t = 17 then (pNum B N 3 p).map fun q => (3 + q.1, q.2) else if t = 18 then (pNum B N 7 p).map fun q => (11 + q.1, q.2) else some (1, p)
def lenV (t z : Nat) : Nat := if t < 16 then t else if t = 16 then z else 0
/-- the lengths of a code from symbol n on: z is the latest that is not 0 -/
def pLens (B : Nat → Int32) (N : Nat) (l5 : Nat → Nat) (size : Nat) : Nat → Nat → Nat → (Nat → Nat) → Nat → Option ((Nat → Nat) × Nat)
  | 0, _, _, l, p => some (l, p)
  | k + 1, n, z, l, p => if n < size then (match pHear B N l5 19 p with
    | none => none
    | some (t, p1) => (match pTimes B N t p1 with
      | none => none
      | some (m, p2) => if n + m ≤ size then pLens B N l5 size k (n + m) (if 0 < lenV t z then lenV t z else z) (zfill l n m (lenV t z)) p2 else none)) else some (l, p)
def zord (i : Nat) : Nat := [17, 18, 0, 1, 2, 3, 4, 5, 16, 6, 7, 8, 9, 10, 11, 12, 13, 14, 15].getD i 0
/-- the small code's lengths: n more, from the ith on -/
def pSmall (B : Nat → Int32) (N : Nat) : Nat → Nat → (Nat → Nat) → Nat → Option ((Nat → Nat) × Nat)
  | 0, _, l, p => some (l, p)
  | n + 1, i, l, p => match pNum B N 3 p with
    | none => none
    | some (v, p1) => pSmall B N n (i + 1) (fun k => if k = zord i then v else l k) p1
def pFew (B : Nat → Int32) (N size p : Nat) : Option ((Nat → Nat) × Nat) :=
  match pNum B N 1 p with
  | none => none
  | some (two, p1) => match pNum B N 1 p1 with
    | none => none
    | some (wide, p2) => match pNum B N (if wide = 1 then 8 else 1) p2 with
      | none => none
      | some (a, p3) => match (if two = 1 then pNum B N 8 p3 else some (a, p3)) with
        | none => none
        | some (b, p4) => if a < size ∧ b < size ∧ ¬ (two = 1 ∧ a = b) then some ((fun k => if k = a ∨ k = b then 1 else 0), p4) else none
/-- a code's lengths, said by the small code -/
def pLong (B : Nat → Int32) (N size p : Nat) : Option ((Nat → Nat) × Nat) :=
  match pNum B N 4 p with
  | none => none
  | some (n, p2) => match pSmall B N (n + 4) 0 (fun _ => 0) p2 with
    | none => none
    | some (l5, p3) => if cntp (qp l5) 19 = 1 ∨ kr l5 19 = 32768 then pLens B N l5 size size 0 8 (fun _ => 0) p3 else none
/-- a code as the stream says it -/
def pRaw (B : Nat → Int32) (N size p : Nat) : Option ((Nat → Nat) × Nat) :=
  match pNum B N 1 p with
  | none => none
  | some (few, p1) => if few = 1 then pFew B N size p1 else pLong B N size p1
def pCode (B : Nat → Int32) (N size p : Nat) : Option ((Nat → Nat) × Nat) :=
  match pRaw B N size p with
  | none => none
  | some (l, p1) => if cntp (qp l) size = 1 ∨ kr l size = 32768 then some (l, p1) else none
/-- what a prefix says: its least number, the bits behind it -/
def zbeh (p : Nat) : Nat := if p < 4 then 0 else p / 2 - 1
def zlst (p : Nat) : Nat := if p < 4 then p + 1 else (2 + p % 2) * 2 ^ (p / 2 - 1) + 1
def pPre (B : Nat → Int32) (N x p : Nat) : Option (Nat × Nat) := (pNum B N (zbeh x) p).map fun q => (zlst x + q.1, q.2)
def znear (k w : Nat) : Nat := [w, 1, 1 + w, w - 1, 2 * w, 2, 1 + 2 * w, 2 * w - 1].getD (k - 1) 0
def zdist (k w : Nat) : Nat := if 8 < k then k - 8 else max 1 (znear k w)
/-- a colour's place in a cache of so many bits -/
def hsh (b : Nat) (x : Int32) : Nat := if b = 0 then 0 else (nI 506832829 * x).toBitVec.toNat / 2 ^ (32 - b)
def zup (f : Nat → Int32) (k : Nat) (v : Int32) : Nat → Int32 := fun j => if j = k then v else f j
/-- n pixels from the ith on, each as the one d ahead of it; the cache keeps them -/
def cpL (b d : Nat) : Nat → Nat → (Nat → Int32) → (Nat → Int32) → (Nat → Int32) × (Nat → Int32)
  | 0, _, f, C => (f, C)
  | n + 1, i, f, C => cpL b d n (i + 1) (zup f i (f (i - d))) (zup C (hsh b (f (i - d))) (f (i - d)))
/-- what an image is said by: its codes, the cache's bits, its width, how many pixels; (pixels, cache, copies, cached, place) -/
def zpx (al r g bl : Nat) : Int32 := ((nI al <<< (nI 24 &&& 31) ||| nI r <<< (nI 16 &&& 31)) ||| nI g <<< (nI 8 &&& 31)) ||| nI bl
def zcc (b : Nat) : Nat := if b = 0 then 0 else 2 ^ b
/-- a copy: how many, pixels, cache, copies, cached, place -/
def pCopy (B : Nat → Int32) (N : Nat) (ls : Nat → Nat → Nat) (b w tot i : Nat) (f C : Nat → Int32) (cp ca x p : Nat) : Option (Nat × (Nat → Int32) × (Nat → Int32) × Nat × Nat × Nat) :=
  match pPre B N x p with
  | none => none
  | some (n, p2) => match pHear B N (ls 4) 40 p2 with
    | none => none
    | some (y, p3) => match pPre B N y p3 with
      | none => none
      | some (q, p4) => if zdist q w ≤ i ∧ i + n ≤ tot then some (n, (cpL b (zdist q w) n i f C).1, (cpL b (zdist q w) n i f C).2, cp + 1, ca, p4) else none
/-- one turn of pixels: how many, pixels, cache, copies, cached, place -/
def pTurn (B : Nat → Int32) (N : Nat) (ls : Nat → Nat → Nat) (b w tot i : Nat) (f C : Nat → Int32) (cp ca p : Nat) : Option (Nat × (Nat → Int32) × (Nat → Int32) × Nat × Nat × Nat) :=
  match pHear B N (ls 0) (280 + zcc b) p with
    | none => none
    | some (s, p1) => if s < 256 then (match pHear B N (ls 1) 256 p1 with
        | none => none
        | some (r, p2) => (match pHear B N (ls 2) 256 p2 with
          | none => none
          | some (bl, p3) => (match pHear B N (ls 3) 256 p3 with
            | none => none
            | some (al, p4) => some (1, zup f i (zpx al r s bl), zup C (hsh b (zpx al r s bl)) (zpx al r s bl), cp, ca, p4))))
      else if s < 280 then pCopy B N ls b w tot i f C cp ca (s - 256) p1
      else some (1, zup f i (C (s - 280)), zup C (hsh b (C (s - 280))) (C (s - 280)), cp, ca + 1, p1)
/-- so many turns at most, from pixel i on -/
def pPix (B : Nat → Int32) (N : Nat) (ls : Nat → Nat → Nat) (b w tot : Nat) : Nat → Nat → (Nat → Int32) → (Nat → Int32) → Nat → Nat → Nat → Option ((Nat → Int32) × (Nat → Int32) × Nat × Nat × Nat)
  | 0, _, f, C, cp, ca, p => some (f, C, cp, ca, p)
  | k + 1, i, f, C, cp, ca, p => if i < tot then (match pTurn B N ls b w tot i f C cp ca p with
      | none => none
      | some (n, f1, C1, cp1, ca1, p1) => pPix B N ls b w tot k (i + n) f1 C1 cp1 ca1 p1) else some (f, C, cp, ca, p)
def zsz (b : Nat) (which : Nat) : Nat := if which = 0 then 280 + zcc b else if which < 4 then 256 else 40
/-- the codes from this one on -/
def pCodes (B : Nat → Int32) (N b : Nat) : Nat → Nat → (Nat → Nat → Nat) → Nat → Option ((Nat → Nat → Nat) × Nat)
  | 0, _, ls, p => some (ls, p)
  | k + 1, i, ls, p => match pCode B N (zsz b i) p with
    | none => none
    | some (l, p1) => pCodes B N b k (i + 1) (fun j => if j = i then l else ls j) p1
/-- the cache's bits -/
def pBits (B : Nat → Int32) (N p : Nat) : Option (Nat × Nat) :=
  match pNum B N 1 p with
  | none => none
  | some (c, p1) => if c = 1 then (pNum B N 2 p1).map fun q => (q.1 + 1, q.2) else some (0, p1)
/-- an image: (pixels, cache's bits, copies, cached, place) -/
def pImg (B : Nat → Int32) (N w tot p : Nat) : Option ((Nat → Int32) × Nat × Nat × Nat × Nat) :=
  match pBits B N p with
  | none => none
  | some (b, p1) => match pCodes B N b 5 0 (fun _ _ => 0) p1 with
    | none => none
    | some (ls, p2) => match pPix B N ls b w tot tot 0 (fun _ => 0) (fun _ => 0) 0 0 p2 with
      | none => none
      | some (f1, _, cp, ca, p3) => some (f1, b, cp, ca, p3)
