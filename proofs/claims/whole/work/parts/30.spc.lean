/-! a place kept -/
theorem dum0 : True := trivial
