theorem rk_zz : True := trivial
