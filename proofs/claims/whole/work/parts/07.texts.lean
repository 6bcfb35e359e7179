/-! the words of a text, told by hand: spells, wordWithin -/
def txL (w : Int) : Int := ([4, 7, 5, 5, 6, 4] : List Int).getD w.toNat 0
def txC (w k : Int) : Int := (([[98, 101, 97, 109], [115, 117, 112, 112, 111, 114, 116], [104, 105, 110, 103, 101], [112, 111, 105, 110, 116], [115, 112, 114, 101, 97, 100], [97, 120, 108, 101]] : List (List Int)).getD w.toNat []).getD k.toNat 0
/-- the letter z of the word i -/
def jd_char (i : Nat) (z : Int) : Option Int := if 0 ≤ s32 z ∧ s32 z < txL i then some (txC i (s32 z)) else none
def Rd_spelled (w : Int) : Option Nat := if s32 w = 0 then some 0 else if s32 w = 1 then some 1 else if s32 w = 2 then some 2 else if s32 w = 3 then some 3 else if s32 w = 4 then some 4 else some 5
/-- whether the tape from p0 on, up to p1, is the word w -/
def Rd_spells_L (p0 p1 : Int) (w : Nat) (mem : Mem) : Nat → Int → Option Int
  | 0, _ => none
  | n + 1, i => if s32 p1 ≤ s32 i then some 1 else ck i 120 ((jd_char w (i - p0)).bind (fun r => if s32 (mem 141 (s32 i)) = s32 r then Rd_spells_L p0 p1 w mem n (i + 1) else some 0))
def Rd_spells (p0 p1 : Int) (w : Nat) (mem : Mem) : Option Int := if s32 (txL w) = s32 (p1 - p0) then Rd_spells_L p0 p1 w mem 2000 p0 else some 0
def Rd_wordWithin_L (p0 p1 : Int) (mem : Mem) : Nat → Int → Option Int
  | 0, _ => none
  | n + 1, w => if s32 6 ≤ s32 w then some (-1) else (Rd_spelled w).bind (fun i => (Rd_spells p0 p1 i mem).bind (fun r => if s32 r = 0 then Rd_wordWithin_L p0 p1 mem n (w + 1) else some w))
def Rd_wordWithin (p0 p1 : Int) (mem : Mem) : Option Int := Rd_wordWithin_L p0 p1 mem 2000 0
