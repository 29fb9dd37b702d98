theorem tt_zz : True := trivial
