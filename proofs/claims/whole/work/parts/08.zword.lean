theorem mX5_wordWithin (u : jU) (p0 p1 : Int) (mem : Mem) : jMet u yX5_wordWithin cX5_wordWithin 4 (some .int) (jRm 5 164) [vR (uB u) 131, vI p0, vI p1] mem (EpI mem) (Rd_wordWithin p0 p1 mem) := by
  sorry
