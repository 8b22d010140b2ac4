theorem kz_last : True := True.intro
