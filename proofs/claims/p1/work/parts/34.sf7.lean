/-! WHAT IS ASKED OF EACH METHOD, TOGETHER, 7 -/
theorem mz_Kl18 : mz_kr mz_mk R_law0 "" code 2 (some .boolean) mz_Tl 2160 37 = true := by decide +kernel
theorem mz_Kl (Ls : Nat) (h : Ls ≤ 4) (mn : String) (pc : Nat) : mz_selk mz_mk (Nat.mod (mz_te mz_Tl pc) 256) R_law0 mn code (2 + Ls) (some .boolean) (mz_te mz_Tl pc) pc = true := by
  rw [mz_mnf mz_mk _ (mz_nop_ok mz_Tl_nop mz_Tl_end pc) R_law0 mn "", mz_mof mz_mk _ R_law0 "" code (2 + Ls) 2 _ _ _ (by omega) (by omega)]
  rcases Nat.lt_or_ge pc 2197 with z | z
  · rcases Nat.lt_or_ge pc 120 with y0 | y0
    · exact mz_kr_ok mz_Kl0 pc (by omega) (by omega)
    · rcases Nat.lt_or_ge pc 240 with y1 | y1
      · exact mz_kr_ok mz_Kl1 pc (by omega) (by omega)
      · rcases Nat.lt_or_ge pc 360 with y2 | y2
        · exact mz_kr_ok mz_Kl2 pc (by omega) (by omega)
        · rcases Nat.lt_or_ge pc 480 with y3 | y3
          · exact mz_kr_ok mz_Kl3 pc (by omega) (by omega)
          · rcases Nat.lt_or_ge pc 600 with y4 | y4
            · exact mz_kr_ok mz_Kl4 pc (by omega) (by omega)
            · rcases Nat.lt_or_ge pc 720 with y5 | y5
              · exact mz_kr_ok mz_Kl5 pc (by omega) (by omega)
              · rcases Nat.lt_or_ge pc 840 with y6 | y6
                · exact mz_kr_ok mz_Kl6 pc (by omega) (by omega)
                · rcases Nat.lt_or_ge pc 960 with y7 | y7
                  · exact mz_kr_ok mz_Kl7 pc (by omega) (by omega)
                  · rcases Nat.lt_or_ge pc 1080 with y8 | y8
                    · exact mz_kr_ok mz_Kl8 pc (by omega) (by omega)
                    · rcases Nat.lt_or_ge pc 1200 with y9 | y9
                      · exact mz_kr_ok mz_Kl9 pc (by omega) (by omega)
                      · rcases Nat.lt_or_ge pc 1320 with y10 | y10
                        · exact mz_kr_ok mz_Kl10 pc (by omega) (by omega)
                        · rcases Nat.lt_or_ge pc 1440 with y11 | y11
                          · exact mz_kr_ok mz_Kl11 pc (by omega) (by omega)
                          · rcases Nat.lt_or_ge pc 1560 with y12 | y12
                            · exact mz_kr_ok mz_Kl12 pc (by omega) (by omega)
                            · rcases Nat.lt_or_ge pc 1680 with y13 | y13
                              · exact mz_kr_ok mz_Kl13 pc (by omega) (by omega)
                              · rcases Nat.lt_or_ge pc 1800 with y14 | y14
                                · exact mz_kr_ok mz_Kl14 pc (by omega) (by omega)
                                · rcases Nat.lt_or_ge pc 1920 with y15 | y15
                                  · exact mz_kr_ok mz_Kl15 pc (by omega) (by omega)
                                  · rcases Nat.lt_or_ge pc 2040 with y16 | y16
                                    · exact mz_kr_ok mz_Kl16 pc (by omega) (by omega)
                                    · rcases Nat.lt_or_ge pc 2160 with y17 | y17
                                      · exact mz_kr_ok mz_Kl17 pc (by omega) (by omega)
                                      · exact mz_kr_ok mz_Kl18 pc (by omega) (by omega)
  · rw [mz_te_out mz_Tl_end z]; rfl

