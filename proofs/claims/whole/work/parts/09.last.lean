theorem az_last : True := trivial
