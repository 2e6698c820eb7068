theorem pg_last0 : True := trivial
