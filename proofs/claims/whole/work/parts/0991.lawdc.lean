theorem am_dc_172 : am_dok (am_by 172) (am_m 172).1 (am_m 172).2.1 (am_ini 172) = true := by decide +kernel
