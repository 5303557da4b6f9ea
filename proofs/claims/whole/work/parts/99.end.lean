theorem end_0 : True := trivial
