theorem cf_dummy : True := trivial
