/-! all sims are proved in parts 31 to 79 -/
theorem sims_all : True := trivial
