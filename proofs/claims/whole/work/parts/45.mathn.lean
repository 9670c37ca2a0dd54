theorem mathn_here : True := trivial
