theorem sNX4_67 : SitN RX4 67 arraycopyName := ⟨(wb_2 106 (by decide +kernel) rfl), (wb_2 108 (by decide +kernel) rfl), (wb_2 107 (by decide +kernel) rfl), (wb_1 15 (by decide +kernel) rfl)⟩
theorem sNX6_34 : SitN RX6 34 arraycopyName := ⟨(wb_3 103 (by decide +kernel) rfl), (wb_2 108 (by decide +kernel) rfl), (wb_2 107 (by decide +kernel) rfl), (wb_1 15 (by decide +kernel) rfl)⟩
