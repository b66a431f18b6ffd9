def rx_noext : Nat → Nat → List rx_V → rx_Y → List rx_C → Option rx_O := fun _ _ _ _ _ => none
set_option maxRecDepth 1000000 in
theorem rx_test2 : (rx_fcall rx_NW rx_MT rx_noext 100000 12 123 [.inr (.inr (.inl (some 204))), .inl (0, 60)] rx_s6 rx_fh).isSome = true := by decide +kernel
