/-! law -/
theorem stub_law : True := trivial
