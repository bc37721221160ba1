/-! The printed rows on throws (41) use rows of the library's later half: named here, first of all, so that a round is read over the whole library from its first part on. -/
theorem w_wide (pl : Platform) (s : State) (d t : ClassId) (x : ExceptionTableEntry) (h : x.catchType = 0) : RowCatches pl s d t x := Or.inl h
