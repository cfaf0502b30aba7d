theorem st_branch {u : Mem} (hI : Inv u) : okS u (f_X7_branch u) f_X8_branch := sorry
