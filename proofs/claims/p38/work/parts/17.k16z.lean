/-- nothing stands here any more -/
theorem wd_z : True := trivial
