/-! the words of a text, told by hand: spells, wordWithin -/
def txL (w : Int) : Int := ([4, 7, 5, 5, 6, 4] : List Int).getD w.toNat 0
def txC (w k : Int) : Int := (([[98, 101, 97, 109], [115, 117, 112, 112, 111, 114, 116], [104, 105, 110, 103, 101], [112, 111, 105, 110, 116], [115, 112, 114, 101, 97, 100], [97, 120, 108, 101]] : List (List Int)).getD w.toNat []).getD k.toNat 0
/-- whether the tape from p0 on, up to p1, is the word w -/
def Rd_spells_L (p0 p1 w : Int) (mem : Mem) : Nat → Int → Option Int
  | 0, _ => none
  | n + 1, i => if s32 p1 ≤ s32 i then some 1 else ck i 120 (if 0 ≤ s32 (i - p0) ∧ s32 (i - p0) < txL w then (if s32 (mem 141 (s32 i)) = txC w (s32 (i - p0)) then Rd_spells_L p0 p1 w mem n (i + 1) else some 0) else none)
def Rd_spells (p0 p1 w : Int) (mem : Mem) : Option Int := if txL w = s32 (p1 - p0) then Rd_spells_L p0 p1 w mem 2000 p0 else some 0
def Rd_wordWithin_L (p0 p1 : Int) (mem : Mem) : Nat → Int → Option Int
  | 0, _ => none
  | n + 1, w => if 6 ≤ w then some (-1) else (Rd_spells p0 p1 w mem).bind (fun r => if r = 0 then Rd_wordWithin_L p0 p1 mem n (w + 1) else some w)
def Rd_wordWithin (p0 p1 : Int) (mem : Mem) : Option Int := Rd_wordWithin_L p0 p1 mem 2000 0
