theorem ok_X8_mapsOf : OkM csF yX8_mapsOf (Cond.code yX8_mapsOf cX8_mapsOf 13 (some .int)) 6 0 fn_X8_mapsOf :=
  OkM_of (own := RX8) (C := C_X8_mapsOf) (by decide +kernel) rfl (cfg_X8_mapsOf) rfl rfl rfl rfl (by
    intro av M o M' h
    unfold fn_X8_mapsOf at h
    split at h
    · rename_i r0 v1 v3 v5
      rcases bif_cs h with ⟨hb, h⟩ | ⟨-, h⟩
      · skip
        have hr0 := hb
        obtain rfl := Nat.eq_of_beq_eq_true hr0
        exact ⟨rfl, Nat.le_of_ble_eq_true rfl, okh_X8_mapsOf v1 v3 v5 M o M' h⟩
      · cases h
    · cases h)
