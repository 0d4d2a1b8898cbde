theorem flds_all : (List.range 11).all (fun ci => (u_ws (RXf ci) (TXf ci) (nfl ci)).all (fun w => decide (w ∈ lw_tbl) && goodWord w)) = true := by decide +kernel
