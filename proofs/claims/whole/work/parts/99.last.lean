theorem last_row : True := trivial
