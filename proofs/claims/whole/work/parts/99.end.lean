theorem end_row : True := trivial
