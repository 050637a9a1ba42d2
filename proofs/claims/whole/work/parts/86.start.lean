theorem st86_stub : True := trivial
