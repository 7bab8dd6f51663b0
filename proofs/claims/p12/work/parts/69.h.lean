/-! the turn of a band, by computing -/
theorem ac_sY : ac_bl.all (fun w => ac_segY (ac_bnd w)) = true := by decide +kernel
