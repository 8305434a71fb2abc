theorem zzz : True := trivial
