/-! printed by a program: the law, run from its entry on; each of its calls from a new class and a new reference on -/
theorem rx_ph1 : rx_lgo 23 (rx_s7, [], (0, 0), 0, [(0, .inr (.inr (.inr 0)))], []) = some [(rx_s7, rx_fh, (226, 8467), 23, rx_fl0, [])] := rx_oeq (by decide +kernel)
theorem rx_ph2 : rx_lgo 40 (rx_s7, rx_fh, (226, 8467), 23, rx_fl0, []) = some [(rx_sLt, rx_fh, (226, 8467), 1412, rx_fl0, [.inl (0, 1)]), rx_T40 rx_full rx_full] := rx_oeq (by decide +kernel)
