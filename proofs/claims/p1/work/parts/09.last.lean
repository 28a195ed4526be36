theorem last_t : True := trivial
