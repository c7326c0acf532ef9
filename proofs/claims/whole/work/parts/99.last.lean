theorem sl_last : True := trivial
