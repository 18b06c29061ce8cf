theorem trivial_86 : True := True.intro
