theorem qq_end : True := trivial
