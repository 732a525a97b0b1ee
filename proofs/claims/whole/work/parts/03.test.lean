theorem tt_x : True := trivial
