set_option maxRecDepth 100000
theorem yt_1 : (yev 6 11 0 [(0, 11, ydf 11, fun _ => 0)]).map List.length = some 132 := by decide +kernel
theorem yt_2 : (yev 6 12 0 [(0, 12, ydf 12, fun _ => 0)]).map List.length = some 20 := by decide +kernel
