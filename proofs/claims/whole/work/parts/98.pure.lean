theorem zpure : zPure := zpure_law
