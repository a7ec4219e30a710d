theorem zz_l : True := trivial
