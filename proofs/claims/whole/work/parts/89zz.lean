-- the last row so far
theorem row_end : True := trivial
