theorem kx_1_1 {o : Nat} (h : bf_kd o = 1) : bf_kd (o + 1) = 14 := (by decide +kernel : ∀ o, o < 173 → bf_kd o = 1 → bf_kd (o + 1) = 14) o (bf_kd_lt h (by decide)) h
theorem lx_1_1 {o : Nat} (h : bf_kd o = 1) : bf_le (o + 1) = 6 := (by decide +kernel : ∀ o, o < 173 → bf_kd o = 1 → bf_le (o + 1) = 6) o (bf_kd_lt h (by decide)) h
theorem kx_2_1 {o : Nat} (h : bf_kd o = 2) : bf_kd (o + 1) = 14 := (by decide +kernel : ∀ o, o < 173 → bf_kd o = 2 → bf_kd (o + 1) = 14) o (bf_kd_lt h (by decide)) h
theorem lx_2_1 {o : Nat} (h : bf_kd o = 2) : bf_le (o + 1) = 8 := (by decide +kernel : ∀ o, o < 173 → bf_kd o = 2 → bf_le (o + 1) = 8) o (bf_kd_lt h (by decide)) h
theorem kx_3_1 {o : Nat} (h : bf_kd o = 3) : bf_kd (o + 1) = 16 := (by decide +kernel : ∀ o, o < 173 → bf_kd o = 3 → bf_kd (o + 1) = 16) o (bf_kd_lt h (by decide)) h
theorem lx_3_1 {o : Nat} (h : bf_kd o = 3) : bf_le (o + 1) = 6 := (by decide +kernel : ∀ o, o < 173 → bf_kd o = 3 → bf_le (o + 1) = 6) o (bf_kd_lt h (by decide)) h
theorem kx_3_2 {o : Nat} (h : bf_kd o = 3) : bf_kd (o + 2) = 0 := (by decide +kernel : ∀ o, o < 173 → bf_kd o = 3 → bf_kd (o + 2) = 0) o (bf_kd_lt h (by decide)) h
theorem lx_3_2 {o : Nat} (h : bf_kd o = 3) : bf_le (o + 2) = 0 := (by decide +kernel : ∀ o, o < 173 → bf_kd o = 3 → bf_le (o + 2) = 0) o (bf_kd_lt h (by decide)) h
theorem kx_3_3 {o : Nat} (h : bf_kd o = 3) : bf_kd (o + 3) = 0 := (by decide +kernel : ∀ o, o < 173 → bf_kd o = 3 → bf_kd (o + 3) = 0) o (bf_kd_lt h (by decide)) h
theorem lx_3_3 {o : Nat} (h : bf_kd o = 3) : bf_le (o + 3) = 0 := (by decide +kernel : ∀ o, o < 173 → bf_kd o = 3 → bf_le (o + 3) = 0) o (bf_kd_lt h (by decide)) h
theorem kx_3_4 {o : Nat} (h : bf_kd o = 3) : bf_kd (o + 4) = 0 := (by decide +kernel : ∀ o, o < 173 → bf_kd o = 3 → bf_kd (o + 4) = 0) o (bf_kd_lt h (by decide)) h
theorem lx_3_4 {o : Nat} (h : bf_kd o = 3) : bf_le (o + 4) = 0 := (by decide +kernel : ∀ o, o < 173 → bf_kd o = 3 → bf_le (o + 4) = 0) o (bf_kd_lt h (by decide)) h
theorem kx_3_5 {o : Nat} (h : bf_kd o = 3) : bf_kd (o + 5) = 0 := (by decide +kernel : ∀ o, o < 173 → bf_kd o = 3 → bf_kd (o + 5) = 0) o (bf_kd_lt h (by decide)) h
theorem lx_3_5 {o : Nat} (h : bf_kd o = 3) : bf_le (o + 5) = 0 := (by decide +kernel : ∀ o, o < 173 → bf_kd o = 3 → bf_le (o + 5) = 0) o (bf_kd_lt h (by decide)) h
theorem kx_3_6 {o : Nat} (h : bf_kd o = 3) : bf_kd (o + 6) = 0 := (by decide +kernel : ∀ o, o < 173 → bf_kd o = 3 → bf_kd (o + 6) = 0) o (bf_kd_lt h (by decide)) h
theorem lx_3_6 {o : Nat} (h : bf_kd o = 3) : bf_le (o + 6) = 0 := (by decide +kernel : ∀ o, o < 173 → bf_kd o = 3 → bf_le (o + 6) = 0) o (bf_kd_lt h (by decide)) h
theorem kx_3_7 {o : Nat} (h : bf_kd o = 3) : bf_kd (o + 7) = 0 := (by decide +kernel : ∀ o, o < 173 → bf_kd o = 3 → bf_kd (o + 7) = 0) o (bf_kd_lt h (by decide)) h
theorem lx_3_7 {o : Nat} (h : bf_kd o = 3) : bf_le (o + 7) = 0 := (by decide +kernel : ∀ o, o < 173 → bf_kd o = 3 → bf_le (o + 7) = 0) o (bf_kd_lt h (by decide)) h
theorem kx_3_8 {o : Nat} (h : bf_kd o = 3) : bf_kd (o + 8) = 19 := (by decide +kernel : ∀ o, o < 173 → bf_kd o = 3 → bf_kd (o + 8) = 19) o (bf_kd_lt h (by decide)) h
theorem lx_3_8 {o : Nat} (h : bf_kd o = 3) : bf_le (o + 8) = 8 := (by decide +kernel : ∀ o, o < 173 → bf_kd o = 3 → bf_le (o + 8) = 8) o (bf_kd_lt h (by decide)) h
theorem kx_3_9 {o : Nat} (h : bf_kd o = 3) : bf_kd (o + 9) = 10 := (by decide +kernel : ∀ o, o < 173 → bf_kd o = 3 → bf_kd (o + 9) = 10) o (bf_kd_lt h (by decide)) h
theorem lx_3_9 {o : Nat} (h : bf_kd o = 3) : bf_le (o + 9) = 0 := (by decide +kernel : ∀ o, o < 173 → bf_kd o = 3 → bf_le (o + 9) = 0) o (bf_kd_lt h (by decide)) h
theorem kx_3_11 {o : Nat} (h : bf_kd o = 3) : bf_kd (o + 11) = 10 := (by decide +kernel : ∀ o, o < 173 → bf_kd o = 3 → bf_kd (o + 11) = 10) o (bf_kd_lt h (by decide)) h
theorem lx_3_11 {o : Nat} (h : bf_kd o = 3) : bf_le (o + 11) = 0 := (by decide +kernel : ∀ o, o < 173 → bf_kd o = 3 → bf_le (o + 11) = 0) o (bf_kd_lt h (by decide)) h
theorem kx_3_13 {o : Nat} (h : bf_kd o = 3) : bf_kd (o + 13) = 10 := (by decide +kernel : ∀ o, o < 173 → bf_kd o = 3 → bf_kd (o + 13) = 10) o (bf_kd_lt h (by decide)) h
theorem lx_3_13 {o : Nat} (h : bf_kd o = 3) : bf_le (o + 13) = 0 := (by decide +kernel : ∀ o, o < 173 → bf_kd o = 3 → bf_le (o + 13) = 0) o (bf_kd_lt h (by decide)) h
theorem kx_3_15 {o : Nat} (h : bf_kd o = 3) : bf_kd (o + 15) = 10 := (by decide +kernel : ∀ o, o < 173 → bf_kd o = 3 → bf_kd (o + 15) = 10) o (bf_kd_lt h (by decide)) h
theorem lx_3_15 {o : Nat} (h : bf_kd o = 3) : bf_le (o + 15) = 0 := (by decide +kernel : ∀ o, o < 173 → bf_kd o = 3 → bf_le (o + 15) = 0) o (bf_kd_lt h (by decide)) h
theorem kx_3_17 {o : Nat} (h : bf_kd o = 3) : bf_kd (o + 17) = 10 := (by decide +kernel : ∀ o, o < 173 → bf_kd o = 3 → bf_kd (o + 17) = 10) o (bf_kd_lt h (by decide)) h
theorem lx_3_17 {o : Nat} (h : bf_kd o = 3) : bf_le (o + 17) = 0 := (by decide +kernel : ∀ o, o < 173 → bf_kd o = 3 → bf_le (o + 17) = 0) o (bf_kd_lt h (by decide)) h
theorem kx_3_19 {o : Nat} (h : bf_kd o = 3) : bf_kd (o + 19) = 10 := (by decide +kernel : ∀ o, o < 173 → bf_kd o = 3 → bf_kd (o + 19) = 10) o (bf_kd_lt h (by decide)) h
theorem lx_3_19 {o : Nat} (h : bf_kd o = 3) : bf_le (o + 19) = 0 := (by decide +kernel : ∀ o, o < 173 → bf_kd o = 3 → bf_le (o + 19) = 0) o (bf_kd_lt h (by decide)) h
theorem kx_3_21 {o : Nat} (h : bf_kd o = 3) : bf_kd (o + 21) = 10 := (by decide +kernel : ∀ o, o < 173 → bf_kd o = 3 → bf_kd (o + 21) = 10) o (bf_kd_lt h (by decide)) h
theorem lx_3_21 {o : Nat} (h : bf_kd o = 3) : bf_le (o + 21) = 0 := (by decide +kernel : ∀ o, o < 173 → bf_kd o = 3 → bf_le (o + 21) = 0) o (bf_kd_lt h (by decide)) h
theorem kx_3_23 {o : Nat} (h : bf_kd o = 3) : bf_kd (o + 23) = 10 := (by decide +kernel : ∀ o, o < 173 → bf_kd o = 3 → bf_kd (o + 23) = 10) o (bf_kd_lt h (by decide)) h
theorem lx_3_23 {o : Nat} (h : bf_kd o = 3) : bf_le (o + 23) = 0 := (by decide +kernel : ∀ o, o < 173 → bf_kd o = 3 → bf_le (o + 23) = 0) o (bf_kd_lt h (by decide)) h
theorem kx_4_1 {o : Nat} (h : bf_kd o = 4) : bf_kd (o + 1) = 2 := (by decide +kernel : ∀ o, o < 173 → bf_kd o = 4 → bf_kd (o + 1) = 2) o (bf_kd_lt h (by decide)) h
theorem lx_4_1 {o : Nat} (h : bf_kd o = 4) : bf_le (o + 1) = 0 := (by decide +kernel : ∀ o, o < 173 → bf_kd o = 4 → bf_le (o + 1) = 0) o (bf_kd_lt h (by decide)) h
theorem kx_4_3 {o : Nat} (h : bf_kd o = 4) : bf_kd (o + 3) = 14 := (by decide +kernel : ∀ o, o < 173 → bf_kd o = 4 → bf_kd (o + 3) = 14) o (bf_kd_lt h (by decide)) h
theorem lx_4_3 {o : Nat} (h : bf_kd o = 4) : bf_le (o + 3) = 6 := (by decide +kernel : ∀ o, o < 173 → bf_kd o = 4 → bf_le (o + 3) = 6) o (bf_kd_lt h (by decide)) h
theorem kx_4_4 {o : Nat} (h : bf_kd o = 4) : bf_kd (o + 4) = 20 := (by decide +kernel : ∀ o, o < 173 → bf_kd o = 4 → bf_kd (o + 4) = 20) o (bf_kd_lt h (by decide)) h
theorem lx_4_4 {o : Nat} (h : bf_kd o = 4) : bf_le (o + 4) = 9 := (by decide +kernel : ∀ o, o < 173 → bf_kd o = 4 → bf_le (o + 4) = 9) o (bf_kd_lt h (by decide)) h
theorem kx_5_1 {o : Nat} (h : bf_kd o = 5) : bf_kd (o + 1) = 14 := (by decide +kernel : ∀ o, o < 173 → bf_kd o = 5 → bf_kd (o + 1) = 14) o (bf_kd_lt h (by decide)) h
theorem kx_5_2 {o : Nat} (h : bf_kd o = 5) : bf_kd (o + 2) = 14 := (by decide +kernel : ∀ o, o < 173 → bf_kd o = 5 → bf_kd (o + 2) = 14) o (bf_kd_lt h (by decide)) h
theorem kx_5_3 {o : Nat} (h : bf_kd o = 5) : bf_kd (o + 3) = 14 := (by decide +kernel : ∀ o, o < 173 → bf_kd o = 5 → bf_kd (o + 3) = 14) o (bf_kd_lt h (by decide)) h
theorem kx_6_1 {o : Nat} (h : bf_kd o = 6) : bf_kd (o + 1) = 14 := (by decide +kernel : ∀ o, o < 173 → bf_kd o = 6 → bf_kd (o + 1) = 14) o (bf_kd_lt h (by decide)) h
theorem lx_6_1 {o : Nat} (h : bf_kd o = 6) : bf_le (o + 1) = 6 := (by decide +kernel : ∀ o, o < 173 → bf_kd o = 6 → bf_le (o + 1) = 6) o (bf_kd_lt h (by decide)) h
theorem kx_6_2 {o : Nat} (h : bf_kd o = 6) : bf_kd (o + 2) = 14 := (by decide +kernel : ∀ o, o < 173 → bf_kd o = 6 → bf_kd (o + 2) = 14) o (bf_kd_lt h (by decide)) h
theorem lx_6_2 {o : Nat} (h : bf_kd o = 6) : bf_le (o + 2) = 360 := (by decide +kernel : ∀ o, o < 173 → bf_kd o = 6 → bf_le (o + 2) = 360) o (bf_kd_lt h (by decide)) h
theorem kx_6_3 {o : Nat} (h : bf_kd o = 6) : bf_kd (o + 3) = 14 := (by decide +kernel : ∀ o, o < 173 → bf_kd o = 6 → bf_kd (o + 3) = 14) o (bf_kd_lt h (by decide)) h
theorem lx_6_3 {o : Nat} (h : bf_kd o = 6) : bf_le (o + 3) = 8 := (by decide +kernel : ∀ o, o < 173 → bf_kd o = 6 → bf_le (o + 3) = 8) o (bf_kd_lt h (by decide)) h
theorem kx_6_4 {o : Nat} (h : bf_kd o = 6) : bf_kd (o + 4) = 14 := (by decide +kernel : ∀ o, o < 173 → bf_kd o = 6 → bf_kd (o + 4) = 14) o (bf_kd_lt h (by decide)) h
theorem lx_6_4 {o : Nat} (h : bf_kd o = 6) : bf_le (o + 4) = 6 := (by decide +kernel : ∀ o, o < 173 → bf_kd o = 6 → bf_le (o + 4) = 6) o (bf_kd_lt h (by decide)) h
theorem kx_6_5 {o : Nat} (h : bf_kd o = 6) : bf_kd (o + 5) = 14 := (by decide +kernel : ∀ o, o < 173 → bf_kd o = 6 → bf_kd (o + 5) = 14) o (bf_kd_lt h (by decide)) h
theorem lx_6_5 {o : Nat} (h : bf_kd o = 6) : bf_le (o + 5) = 6 := (by decide +kernel : ∀ o, o < 173 → bf_kd o = 6 → bf_le (o + 5) = 6) o (bf_kd_lt h (by decide)) h
theorem kx_6_6 {o : Nat} (h : bf_kd o = 6) : bf_kd (o + 6) = 2 := (by decide +kernel : ∀ o, o < 173 → bf_kd o = 6 → bf_kd (o + 6) = 2) o (bf_kd_lt h (by decide)) h
theorem lx_6_6 {o : Nat} (h : bf_kd o = 6) : bf_le (o + 6) = 0 := (by decide +kernel : ∀ o, o < 173 → bf_kd o = 6 → bf_le (o + 6) = 0) o (bf_kd_lt h (by decide)) h
theorem kx_7_1 {o : Nat} (h : bf_kd o = 7) : bf_kd (o + 1) = 3 := (by decide +kernel : ∀ o, o < 173 → bf_kd o = 7 → bf_kd (o + 1) = 3) o (bf_kd_lt h (by decide)) h
theorem lx_7_1 {o : Nat} (h : bf_kd o = 7) : bf_le (o + 1) = 0 := (by decide +kernel : ∀ o, o < 173 → bf_kd o = 7 → bf_le (o + 1) = 0) o (bf_kd_lt h (by decide)) h
theorem kx_7_26 {o : Nat} (h : bf_kd o = 7) : bf_kd (o + 26) = 5 := (by decide +kernel : ∀ o, o < 173 → bf_kd o = 7 → bf_kd (o + 26) = 5) o (bf_kd_lt h (by decide)) h
theorem lx_7_26 {o : Nat} (h : bf_kd o = 7) : bf_le (o + 26) = 0 := (by decide +kernel : ∀ o, o < 173 → bf_kd o = 7 → bf_le (o + 26) = 0) o (bf_kd_lt h (by decide)) h
theorem kx_7_27 {o : Nat} (h : bf_kd o = 7) : bf_kd (o + 27) = 14 := (by decide +kernel : ∀ o, o < 173 → bf_kd o = 7 → bf_kd (o + 27) = 14) o (bf_kd_lt h (by decide)) h
theorem lx_7_27 {o : Nat} (h : bf_kd o = 7) : bf_le (o + 27) = 5 := (by decide +kernel : ∀ o, o < 173 → bf_kd o = 7 → bf_le (o + 27) = 5) o (bf_kd_lt h (by decide)) h
theorem kx_7_28 {o : Nat} (h : bf_kd o = 7) : bf_kd (o + 28) = 14 := (by decide +kernel : ∀ o, o < 173 → bf_kd o = 7 → bf_kd (o + 28) = 14) o (bf_kd_lt h (by decide)) h
theorem lx_7_28 {o : Nat} (h : bf_kd o = 7) : bf_le (o + 28) = 5 := (by decide +kernel : ∀ o, o < 173 → bf_kd o = 7 → bf_le (o + 28) = 5) o (bf_kd_lt h (by decide)) h
theorem kx_7_29 {o : Nat} (h : bf_kd o = 7) : bf_kd (o + 29) = 14 := (by decide +kernel : ∀ o, o < 173 → bf_kd o = 7 → bf_kd (o + 29) = 14) o (bf_kd_lt h (by decide)) h
theorem lx_7_29 {o : Nat} (h : bf_kd o = 7) : bf_le (o + 29) = 5 := (by decide +kernel : ∀ o, o < 173 → bf_kd o = 7 → bf_le (o + 29) = 5) o (bf_kd_lt h (by decide)) h
theorem kx_7_30 {o : Nat} (h : bf_kd o = 7) : bf_kd (o + 30) = 5 := (by decide +kernel : ∀ o, o < 173 → bf_kd o = 7 → bf_kd (o + 30) = 5) o (bf_kd_lt h (by decide)) h
theorem lx_7_30 {o : Nat} (h : bf_kd o = 7) : bf_le (o + 30) = 0 := (by decide +kernel : ∀ o, o < 173 → bf_kd o = 7 → bf_le (o + 30) = 0) o (bf_kd_lt h (by decide)) h
theorem kx_7_31 {o : Nat} (h : bf_kd o = 7) : bf_kd (o + 31) = 14 := (by decide +kernel : ∀ o, o < 173 → bf_kd o = 7 → bf_kd (o + 31) = 14) o (bf_kd_lt h (by decide)) h
theorem lx_7_31 {o : Nat} (h : bf_kd o = 7) : bf_le (o + 31) = 10 := (by decide +kernel : ∀ o, o < 173 → bf_kd o = 7 → bf_le (o + 31) = 10) o (bf_kd_lt h (by decide)) h
theorem kx_7_32 {o : Nat} (h : bf_kd o = 7) : bf_kd (o + 32) = 14 := (by decide +kernel : ∀ o, o < 173 → bf_kd o = 7 → bf_kd (o + 32) = 14) o (bf_kd_lt h (by decide)) h
theorem lx_7_32 {o : Nat} (h : bf_kd o = 7) : bf_le (o + 32) = 10 := (by decide +kernel : ∀ o, o < 173 → bf_kd o = 7 → bf_le (o + 32) = 10) o (bf_kd_lt h (by decide)) h
theorem kx_7_33 {o : Nat} (h : bf_kd o = 7) : bf_kd (o + 33) = 14 := (by decide +kernel : ∀ o, o < 173 → bf_kd o = 7 → bf_kd (o + 33) = 14) o (bf_kd_lt h (by decide)) h
theorem lx_7_33 {o : Nat} (h : bf_kd o = 7) : bf_le (o + 33) = 10 := (by decide +kernel : ∀ o, o < 173 → bf_kd o = 7 → bf_le (o + 33) = 10) o (bf_kd_lt h (by decide)) h
theorem kx_7_34 {o : Nat} (h : bf_kd o = 7) : bf_kd (o + 34) = 5 := (by decide +kernel : ∀ o, o < 173 → bf_kd o = 7 → bf_kd (o + 34) = 5) o (bf_kd_lt h (by decide)) h
theorem lx_7_34 {o : Nat} (h : bf_kd o = 7) : bf_le (o + 34) = 0 := (by decide +kernel : ∀ o, o < 173 → bf_kd o = 7 → bf_le (o + 34) = 0) o (bf_kd_lt h (by decide)) h
theorem kx_7_35 {o : Nat} (h : bf_kd o = 7) : bf_kd (o + 35) = 14 := (by decide +kernel : ∀ o, o < 173 → bf_kd o = 7 → bf_kd (o + 35) = 14) o (bf_kd_lt h (by decide)) h
theorem lx_7_35 {o : Nat} (h : bf_kd o = 7) : bf_le (o + 35) = 8 := (by decide +kernel : ∀ o, o < 173 → bf_kd o = 7 → bf_le (o + 35) = 8) o (bf_kd_lt h (by decide)) h
theorem kx_7_36 {o : Nat} (h : bf_kd o = 7) : bf_kd (o + 36) = 14 := (by decide +kernel : ∀ o, o < 173 → bf_kd o = 7 → bf_kd (o + 36) = 14) o (bf_kd_lt h (by decide)) h
theorem lx_7_36 {o : Nat} (h : bf_kd o = 7) : bf_le (o + 36) = 8 := (by decide +kernel : ∀ o, o < 173 → bf_kd o = 7 → bf_le (o + 36) = 8) o (bf_kd_lt h (by decide)) h
theorem kx_7_37 {o : Nat} (h : bf_kd o = 7) : bf_kd (o + 37) = 14 := (by decide +kernel : ∀ o, o < 173 → bf_kd o = 7 → bf_kd (o + 37) = 14) o (bf_kd_lt h (by decide)) h
theorem lx_7_37 {o : Nat} (h : bf_kd o = 7) : bf_le (o + 37) = 8 := (by decide +kernel : ∀ o, o < 173 → bf_kd o = 7 → bf_le (o + 37) = 8) o (bf_kd_lt h (by decide)) h
theorem kx_8_1 {o : Nat} (h : bf_kd o = 8) : bf_kd (o + 1) = 15 := (by decide +kernel : ∀ o, o < 173 → bf_kd o = 8 → bf_kd (o + 1) = 15) o (bf_kd_lt h (by decide)) h
theorem lx_8_1 {o : Nat} (h : bf_kd o = 8) : bf_le (o + 1) = 60 := (by decide +kernel : ∀ o, o < 173 → bf_kd o = 8 → bf_le (o + 1) = 60) o (bf_kd_lt h (by decide)) h
theorem kx_9_1 {o : Nat} (h : bf_kd o = 9) : bf_kd (o + 1) = 13 := (by decide +kernel : ∀ o, o < 173 → bf_kd o = 9 → bf_kd (o + 1) = 13) o (bf_kd_lt h (by decide)) h
theorem lx_9_1 {o : Nat} (h : bf_kd o = 9) : bf_le (o + 1) = 100 := (by decide +kernel : ∀ o, o < 173 → bf_kd o = 9 → bf_le (o + 1) = 100) o (bf_kd_lt h (by decide)) h
theorem kx_9_2 {o : Nat} (h : bf_kd o = 9) : bf_kd (o + 2) = 17 := (by decide +kernel : ∀ o, o < 173 → bf_kd o = 9 → bf_kd (o + 2) = 17) o (bf_kd_lt h (by decide)) h
theorem lx_9_2 {o : Nat} (h : bf_kd o = 9) : bf_le (o + 2) = 8 := (by decide +kernel : ∀ o, o < 173 → bf_kd o = 9 → bf_le (o + 2) = 8) o (bf_kd_lt h (by decide)) h
theorem kx_9_3 {o : Nat} (h : bf_kd o = 9) : bf_kd (o + 3) = 1 := (by decide +kernel : ∀ o, o < 173 → bf_kd o = 9 → bf_kd (o + 3) = 1) o (bf_kd_lt h (by decide)) h
theorem lx_9_3 {o : Nat} (h : bf_kd o = 9) : bf_le (o + 3) = 0 := (by decide +kernel : ∀ o, o < 173 → bf_kd o = 9 → bf_le (o + 3) = 0) o (bf_kd_lt h (by decide)) h
theorem kx_9_5 {o : Nat} (h : bf_kd o = 9) : bf_kd (o + 5) = 1 := (by decide +kernel : ∀ o, o < 173 → bf_kd o = 9 → bf_kd (o + 5) = 1) o (bf_kd_lt h (by decide)) h
theorem lx_9_5 {o : Nat} (h : bf_kd o = 9) : bf_le (o + 5) = 0 := (by decide +kernel : ∀ o, o < 173 → bf_kd o = 9 → bf_le (o + 5) = 0) o (bf_kd_lt h (by decide)) h
theorem kx_9_7 {o : Nat} (h : bf_kd o = 9) : bf_kd (o + 7) = 1 := (by decide +kernel : ∀ o, o < 173 → bf_kd o = 9 → bf_kd (o + 7) = 1) o (bf_kd_lt h (by decide)) h
theorem lx_9_7 {o : Nat} (h : bf_kd o = 9) : bf_le (o + 7) = 0 := (by decide +kernel : ∀ o, o < 173 → bf_kd o = 9 → bf_le (o + 7) = 0) o (bf_kd_lt h (by decide)) h
theorem kx_9_9 {o : Nat} (h : bf_kd o = 9) : bf_kd (o + 9) = 1 := (by decide +kernel : ∀ o, o < 173 → bf_kd o = 9 → bf_kd (o + 9) = 1) o (bf_kd_lt h (by decide)) h
theorem lx_9_9 {o : Nat} (h : bf_kd o = 9) : bf_le (o + 9) = 0 := (by decide +kernel : ∀ o, o < 173 → bf_kd o = 9 → bf_le (o + 9) = 0) o (bf_kd_lt h (by decide)) h
theorem kx_9_11 {o : Nat} (h : bf_kd o = 9) : bf_kd (o + 11) = 1 := (by decide +kernel : ∀ o, o < 173 → bf_kd o = 9 → bf_kd (o + 11) = 1) o (bf_kd_lt h (by decide)) h
theorem lx_9_11 {o : Nat} (h : bf_kd o = 9) : bf_le (o + 11) = 0 := (by decide +kernel : ∀ o, o < 173 → bf_kd o = 9 → bf_le (o + 11) = 0) o (bf_kd_lt h (by decide)) h
theorem kx_9_13 {o : Nat} (h : bf_kd o = 9) : bf_kd (o + 13) = 1 := (by decide +kernel : ∀ o, o < 173 → bf_kd o = 9 → bf_kd (o + 13) = 1) o (bf_kd_lt h (by decide)) h
theorem lx_9_13 {o : Nat} (h : bf_kd o = 9) : bf_le (o + 13) = 0 := (by decide +kernel : ∀ o, o < 173 → bf_kd o = 9 → bf_le (o + 13) = 0) o (bf_kd_lt h (by decide)) h
theorem kx_9_15 {o : Nat} (h : bf_kd o = 9) : bf_kd (o + 15) = 1 := (by decide +kernel : ∀ o, o < 173 → bf_kd o = 9 → bf_kd (o + 15) = 1) o (bf_kd_lt h (by decide)) h
theorem lx_9_15 {o : Nat} (h : bf_kd o = 9) : bf_le (o + 15) = 0 := (by decide +kernel : ∀ o, o < 173 → bf_kd o = 9 → bf_le (o + 15) = 0) o (bf_kd_lt h (by decide)) h
theorem kx_9_17 {o : Nat} (h : bf_kd o = 9) : bf_kd (o + 17) = 1 := (by decide +kernel : ∀ o, o < 173 → bf_kd o = 9 → bf_kd (o + 17) = 1) o (bf_kd_lt h (by decide)) h
theorem lx_9_17 {o : Nat} (h : bf_kd o = 9) : bf_le (o + 17) = 0 := (by decide +kernel : ∀ o, o < 173 → bf_kd o = 9 → bf_le (o + 17) = 0) o (bf_kd_lt h (by decide)) h
theorem kx_10_1 {o : Nat} (h : bf_kd o = 10) : bf_kd (o + 1) = 14 := (by decide +kernel : ∀ o, o < 173 → bf_kd o = 10 → bf_kd (o + 1) = 14) o (bf_kd_lt h (by decide)) h
theorem lx_10_1 {o : Nat} (h : bf_kd o = 10) : bf_le (o + 1) = 99 := (by decide +kernel : ∀ o, o < 173 → bf_kd o = 10 → bf_le (o + 1) = 99) o (bf_kd_lt h (by decide)) h
theorem kx_11_1 {o : Nat} (h : bf_kd o = 11) : bf_kd (o + 1) = 7 := (by decide +kernel : ∀ o, o < 173 → bf_kd o = 11 → bf_kd (o + 1) = 7) o (bf_kd_lt h (by decide)) h
theorem lx_11_1 {o : Nat} (h : bf_kd o = 11) : bf_le (o + 1) = 0 := (by decide +kernel : ∀ o, o < 173 → bf_kd o = 11 → bf_le (o + 1) = 0) o (bf_kd_lt h (by decide)) h
theorem kx_11_39 {o : Nat} (h : bf_kd o = 11) : bf_kd (o + 39) = 7 := (by decide +kernel : ∀ o, o < 173 → bf_kd o = 11 → bf_kd (o + 39) = 7) o (bf_kd_lt h (by decide)) h
theorem lx_11_39 {o : Nat} (h : bf_kd o = 11) : bf_le (o + 39) = 0 := (by decide +kernel : ∀ o, o < 173 → bf_kd o = 11 → bf_le (o + 39) = 0) o (bf_kd_lt h (by decide)) h
theorem kx_11_77 {o : Nat} (h : bf_kd o = 11) : bf_kd (o + 77) = 3 := (by decide +kernel : ∀ o, o < 173 → bf_kd o = 11 → bf_kd (o + 77) = 3) o (bf_kd_lt h (by decide)) h
theorem lx_11_77 {o : Nat} (h : bf_kd o = 11) : bf_le (o + 77) = 0 := (by decide +kernel : ∀ o, o < 173 → bf_kd o = 11 → bf_le (o + 77) = 0) o (bf_kd_lt h (by decide)) h
theorem kx_11_102 {o : Nat} (h : bf_kd o = 11) : bf_kd (o + 102) = 6 := (by decide +kernel : ∀ o, o < 173 → bf_kd o = 11 → bf_kd (o + 102) = 6) o (bf_kd_lt h (by decide)) h
theorem lx_11_102 {o : Nat} (h : bf_kd o = 11) : bf_le (o + 102) = 0 := (by decide +kernel : ∀ o, o < 173 → bf_kd o = 11 → bf_le (o + 102) = 0) o (bf_kd_lt h (by decide)) h
theorem kx_11_110 {o : Nat} (h : bf_kd o = 11) : bf_kd (o + 110) = 4 := (by decide +kernel : ∀ o, o < 173 → bf_kd o = 11 → bf_kd (o + 110) = 4) o (bf_kd_lt h (by decide)) h
theorem lx_11_110 {o : Nat} (h : bf_kd o = 11) : bf_le (o + 110) = 0 := (by decide +kernel : ∀ o, o < 173 → bf_kd o = 11 → bf_le (o + 110) = 0) o (bf_kd_lt h (by decide)) h
theorem kx_11_124 {o : Nat} (h : bf_kd o = 11) : bf_kd (o + 124) = 9 := (by decide +kernel : ∀ o, o < 173 → bf_kd o = 11 → bf_kd (o + 124) = 9) o (bf_kd_lt h (by decide)) h
theorem lx_11_124 {o : Nat} (h : bf_kd o = 11) : bf_le (o + 124) = 0 := (by decide +kernel : ∀ o, o < 173 → bf_kd o = 11 → bf_le (o + 124) = 0) o (bf_kd_lt h (by decide)) h
theorem kx_11_143 {o : Nat} (h : bf_kd o = 11) : bf_kd (o + 143) = 18 := (by decide +kernel : ∀ o, o < 173 → bf_kd o = 11 → bf_kd (o + 143) = 18) o (bf_kd_lt h (by decide)) h
theorem lx_11_143 {o : Nat} (h : bf_kd o = 11) : bf_le (o + 143) = 6 := (by decide +kernel : ∀ o, o < 173 → bf_kd o = 11 → bf_le (o + 143) = 6) o (bf_kd_lt h (by decide)) h
theorem kx_11_144 {o : Nat} (h : bf_kd o = 11) : bf_kd (o + 144) = 8 := (by decide +kernel : ∀ o, o < 173 → bf_kd o = 11 → bf_kd (o + 144) = 8) o (bf_kd_lt h (by decide)) h
theorem lx_11_144 {o : Nat} (h : bf_kd o = 11) : bf_le (o + 144) = 0 := (by decide +kernel : ∀ o, o < 173 → bf_kd o = 11 → bf_le (o + 144) = 0) o (bf_kd_lt h (by decide)) h
theorem kx_11_146 {o : Nat} (h : bf_kd o = 11) : bf_kd (o + 146) = 8 := (by decide +kernel : ∀ o, o < 173 → bf_kd o = 11 → bf_kd (o + 146) = 8) o (bf_kd_lt h (by decide)) h
theorem lx_11_146 {o : Nat} (h : bf_kd o = 11) : bf_le (o + 146) = 0 := (by decide +kernel : ∀ o, o < 173 → bf_kd o = 11 → bf_le (o + 146) = 0) o (bf_kd_lt h (by decide)) h
theorem kx_11_148 {o : Nat} (h : bf_kd o = 11) : bf_kd (o + 148) = 8 := (by decide +kernel : ∀ o, o < 173 → bf_kd o = 11 → bf_kd (o + 148) = 8) o (bf_kd_lt h (by decide)) h
theorem lx_11_148 {o : Nat} (h : bf_kd o = 11) : bf_le (o + 148) = 0 := (by decide +kernel : ∀ o, o < 173 → bf_kd o = 11 → bf_le (o + 148) = 0) o (bf_kd_lt h (by decide)) h
theorem kx_11_150 {o : Nat} (h : bf_kd o = 11) : bf_kd (o + 150) = 8 := (by decide +kernel : ∀ o, o < 173 → bf_kd o = 11 → bf_kd (o + 150) = 8) o (bf_kd_lt h (by decide)) h
theorem lx_11_150 {o : Nat} (h : bf_kd o = 11) : bf_le (o + 150) = 0 := (by decide +kernel : ∀ o, o < 173 → bf_kd o = 11 → bf_le (o + 150) = 0) o (bf_kd_lt h (by decide)) h
theorem kx_11_152 {o : Nat} (h : bf_kd o = 11) : bf_kd (o + 152) = 8 := (by decide +kernel : ∀ o, o < 173 → bf_kd o = 11 → bf_kd (o + 152) = 8) o (bf_kd_lt h (by decide)) h
theorem lx_11_152 {o : Nat} (h : bf_kd o = 11) : bf_le (o + 152) = 0 := (by decide +kernel : ∀ o, o < 173 → bf_kd o = 11 → bf_le (o + 152) = 0) o (bf_kd_lt h (by decide)) h
theorem kx_11_154 {o : Nat} (h : bf_kd o = 11) : bf_kd (o + 154) = 8 := (by decide +kernel : ∀ o, o < 173 → bf_kd o = 11 → bf_kd (o + 154) = 8) o (bf_kd_lt h (by decide)) h
theorem lx_11_154 {o : Nat} (h : bf_kd o = 11) : bf_le (o + 154) = 0 := (by decide +kernel : ∀ o, o < 173 → bf_kd o = 11 → bf_le (o + 154) = 0) o (bf_kd_lt h (by decide)) h
theorem kx_12_1 {o : Nat} (h : bf_kd o = 12) : bf_kd (o + 1) = 14 := (by decide +kernel : ∀ o, o < 173 → bf_kd o = 12 → bf_kd (o + 1) = 14) o (bf_kd_lt h (by decide)) h
theorem lx_12_1 {o : Nat} (h : bf_kd o = 12) : bf_le (o + 1) = 914 := (by decide +kernel : ∀ o, o < 173 → bf_kd o = 12 → bf_le (o + 1) = 914) o (bf_kd_lt h (by decide)) h
theorem kx_12_2 {o : Nat} (h : bf_kd o = 12) : bf_kd (o + 2) = 14 := (by decide +kernel : ∀ o, o < 173 → bf_kd o = 12 → bf_kd (o + 2) = 14) o (bf_kd_lt h (by decide)) h
theorem lx_12_2 {o : Nat} (h : bf_kd o = 12) : bf_le (o + 2) = 914 := (by decide +kernel : ∀ o, o < 173 → bf_kd o = 12 → bf_le (o + 2) = 914) o (bf_kd_lt h (by decide)) h
theorem kx_12_3 {o : Nat} (h : bf_kd o = 12) : bf_kd (o + 3) = 14 := (by decide +kernel : ∀ o, o < 173 → bf_kd o = 12 → bf_kd (o + 3) = 14) o (bf_kd_lt h (by decide)) h
theorem lx_12_3 {o : Nat} (h : bf_kd o = 12) : bf_le (o + 3) = 914 := (by decide +kernel : ∀ o, o < 173 → bf_kd o = 12 → bf_le (o + 3) = 914) o (bf_kd_lt h (by decide)) h
theorem kx_12_4 {o : Nat} (h : bf_kd o = 12) : bf_kd (o + 4) = 14 := (by decide +kernel : ∀ o, o < 173 → bf_kd o = 12 → bf_kd (o + 4) = 14) o (bf_kd_lt h (by decide)) h
theorem lx_12_4 {o : Nat} (h : bf_kd o = 12) : bf_le (o + 4) = 100 := (by decide +kernel : ∀ o, o < 173 → bf_kd o = 12 → bf_le (o + 4) = 100) o (bf_kd_lt h (by decide)) h
theorem kx_12_5 {o : Nat} (h : bf_kd o = 12) : bf_kd (o + 5) = 14 := (by decide +kernel : ∀ o, o < 173 → bf_kd o = 12 → bf_kd (o + 5) = 14) o (bf_kd_lt h (by decide)) h
theorem lx_12_5 {o : Nat} (h : bf_kd o = 12) : bf_le (o + 5) = 88 := (by decide +kernel : ∀ o, o < 173 → bf_kd o = 12 → bf_le (o + 5) = 88) o (bf_kd_lt h (by decide)) h
theorem kx_12_6 {o : Nat} (h : bf_kd o = 12) : bf_kd (o + 6) = 15 := (by decide +kernel : ∀ o, o < 173 → bf_kd o = 12 → bf_kd (o + 6) = 15) o (bf_kd_lt h (by decide)) h
theorem lx_12_6 {o : Nat} (h : bf_kd o = 12) : bf_le (o + 6) = 6 := (by decide +kernel : ∀ o, o < 173 → bf_kd o = 12 → bf_le (o + 6) = 6) o (bf_kd_lt h (by decide)) h
theorem kx_12_7 {o : Nat} (h : bf_kd o = 12) : bf_kd (o + 7) = 15 := (by decide +kernel : ∀ o, o < 173 → bf_kd o = 12 → bf_kd (o + 7) = 15) o (bf_kd_lt h (by decide)) h
theorem lx_12_7 {o : Nat} (h : bf_kd o = 12) : bf_le (o + 7) = 6 := (by decide +kernel : ∀ o, o < 173 → bf_kd o = 12 → bf_le (o + 7) = 6) o (bf_kd_lt h (by decide)) h
theorem kx_12_8 {o : Nat} (h : bf_kd o = 12) : bf_kd (o + 8) = 14 := (by decide +kernel : ∀ o, o < 173 → bf_kd o = 12 → bf_kd (o + 8) = 14) o (bf_kd_lt h (by decide)) h
theorem lx_12_8 {o : Nat} (h : bf_kd o = 12) : bf_le (o + 8) = 6 := (by decide +kernel : ∀ o, o < 173 → bf_kd o = 12 → bf_le (o + 8) = 6) o (bf_kd_lt h (by decide)) h
theorem kx_12_9 {o : Nat} (h : bf_kd o = 12) : bf_kd (o + 9) = 14 := (by decide +kernel : ∀ o, o < 173 → bf_kd o = 12 → bf_kd (o + 9) = 14) o (bf_kd_lt h (by decide)) h
theorem lx_12_9 {o : Nat} (h : bf_kd o = 12) : bf_le (o + 9) = 6 := (by decide +kernel : ∀ o, o < 173 → bf_kd o = 12 → bf_le (o + 9) = 6) o (bf_kd_lt h (by decide)) h
theorem kx_12_10 {o : Nat} (h : bf_kd o = 12) : bf_kd (o + 10) = 14 := (by decide +kernel : ∀ o, o < 173 → bf_kd o = 12 → bf_kd (o + 10) = 14) o (bf_kd_lt h (by decide)) h
theorem lx_12_10 {o : Nat} (h : bf_kd o = 12) : bf_le (o + 10) = 8 := (by decide +kernel : ∀ o, o < 173 → bf_kd o = 12 → bf_le (o + 10) = 8) o (bf_kd_lt h (by decide)) h
theorem kx_12_11 {o : Nat} (h : bf_kd o = 12) : bf_kd (o + 11) = 14 := (by decide +kernel : ∀ o, o < 173 → bf_kd o = 12 → bf_kd (o + 11) = 14) o (bf_kd_lt h (by decide)) h
theorem lx_12_11 {o : Nat} (h : bf_kd o = 12) : bf_le (o + 11) = 914 := (by decide +kernel : ∀ o, o < 173 → bf_kd o = 12 → bf_le (o + 11) = 914) o (bf_kd_lt h (by decide)) h
theorem kx_12_12 {o : Nat} (h : bf_kd o = 12) : bf_kd (o + 12) = 14 := (by decide +kernel : ∀ o, o < 173 → bf_kd o = 12 → bf_kd (o + 12) = 14) o (bf_kd_lt h (by decide)) h
theorem lx_12_12 {o : Nat} (h : bf_kd o = 12) : bf_le (o + 12) = 72 := (by decide +kernel : ∀ o, o < 173 → bf_kd o = 12 → bf_le (o + 12) = 72) o (bf_kd_lt h (by decide)) h
theorem kx_12_13 {o : Nat} (h : bf_kd o = 12) : bf_kd (o + 13) = 14 := (by decide +kernel : ∀ o, o < 173 → bf_kd o = 12 → bf_kd (o + 13) = 14) o (bf_kd_lt h (by decide)) h
theorem lx_12_13 {o : Nat} (h : bf_kd o = 12) : bf_le (o + 13) = 914 := (by decide +kernel : ∀ o, o < 173 → bf_kd o = 12 → bf_le (o + 13) = 914) o (bf_kd_lt h (by decide)) h
theorem kx_12_14 {o : Nat} (h : bf_kd o = 12) : bf_kd (o + 14) = 14 := (by decide +kernel : ∀ o, o < 173 → bf_kd o = 12 → bf_kd (o + 14) = 14) o (bf_kd_lt h (by decide)) h
theorem lx_12_14 {o : Nat} (h : bf_kd o = 12) : bf_le (o + 14) = 6 := (by decide +kernel : ∀ o, o < 173 → bf_kd o = 12 → bf_le (o + 14) = 6) o (bf_kd_lt h (by decide)) h
theorem kx_12_15 {o : Nat} (h : bf_kd o = 12) : bf_kd (o + 15) = 14 := (by decide +kernel : ∀ o, o < 173 → bf_kd o = 12 → bf_kd (o + 15) = 14) o (bf_kd_lt h (by decide)) h
theorem lx_12_15 {o : Nat} (h : bf_kd o = 12) : bf_le (o + 15) = 6 := (by decide +kernel : ∀ o, o < 173 → bf_kd o = 12 → bf_le (o + 15) = 6) o (bf_kd_lt h (by decide)) h
theorem kx_12_16 {o : Nat} (h : bf_kd o = 12) : bf_kd (o + 16) = 15 := (by decide +kernel : ∀ o, o < 173 → bf_kd o = 12 → bf_kd (o + 16) = 15) o (bf_kd_lt h (by decide)) h
theorem lx_12_16 {o : Nat} (h : bf_kd o = 12) : bf_le (o + 16) = 360 := (by decide +kernel : ∀ o, o < 173 → bf_kd o = 12 → bf_le (o + 16) = 360) o (bf_kd_lt h (by decide)) h
theorem nx_1_1 {o : Nat} (h : bf_kd o = 1) : o + 1 ≠ 170 := (by decide +kernel : ∀ o, o < 173 → bf_kd o = 1 → o + 1 ≠ 170) o (bf_kd_lt h (by decide)) h
theorem nx_2_1 {o : Nat} (h : bf_kd o = 2) : o + 1 ≠ 170 := (by decide +kernel : ∀ o, o < 173 → bf_kd o = 2 → o + 1 ≠ 170) o (bf_kd_lt h (by decide)) h
theorem nx_4_3 {o : Nat} (h : bf_kd o = 4) : o + 3 ≠ 170 := (by decide +kernel : ∀ o, o < 173 → bf_kd o = 4 → o + 3 ≠ 170) o (bf_kd_lt h (by decide)) h
theorem nx_5_1 {o : Nat} (h : bf_kd o = 5) : o + 1 ≠ 170 := (by decide +kernel : ∀ o, o < 173 → bf_kd o = 5 → o + 1 ≠ 170) o (bf_kd_lt h (by decide)) h
theorem nx_5_2 {o : Nat} (h : bf_kd o = 5) : o + 2 ≠ 170 := (by decide +kernel : ∀ o, o < 173 → bf_kd o = 5 → o + 2 ≠ 170) o (bf_kd_lt h (by decide)) h
theorem nx_5_3 {o : Nat} (h : bf_kd o = 5) : o + 3 ≠ 170 := (by decide +kernel : ∀ o, o < 173 → bf_kd o = 5 → o + 3 ≠ 170) o (bf_kd_lt h (by decide)) h
theorem nx_6_1 {o : Nat} (h : bf_kd o = 6) : o + 1 ≠ 170 := (by decide +kernel : ∀ o, o < 173 → bf_kd o = 6 → o + 1 ≠ 170) o (bf_kd_lt h (by decide)) h
theorem nx_6_2 {o : Nat} (h : bf_kd o = 6) : o + 2 ≠ 170 := (by decide +kernel : ∀ o, o < 173 → bf_kd o = 6 → o + 2 ≠ 170) o (bf_kd_lt h (by decide)) h
theorem nx_6_3 {o : Nat} (h : bf_kd o = 6) : o + 3 ≠ 170 := (by decide +kernel : ∀ o, o < 173 → bf_kd o = 6 → o + 3 ≠ 170) o (bf_kd_lt h (by decide)) h
theorem nx_6_4 {o : Nat} (h : bf_kd o = 6) : o + 4 ≠ 170 := (by decide +kernel : ∀ o, o < 173 → bf_kd o = 6 → o + 4 ≠ 170) o (bf_kd_lt h (by decide)) h
theorem nx_6_5 {o : Nat} (h : bf_kd o = 6) : o + 5 ≠ 170 := (by decide +kernel : ∀ o, o < 173 → bf_kd o = 6 → o + 5 ≠ 170) o (bf_kd_lt h (by decide)) h
theorem nx_9_1 {o : Nat} (h : bf_kd o = 9) : o + 1 ≠ 170 := (by decide +kernel : ∀ o, o < 173 → bf_kd o = 9 → o + 1 ≠ 170) o (bf_kd_lt h (by decide)) h
theorem nx_10_1 {o : Nat} (h : bf_kd o = 10) : o + 1 ≠ 170 := (by decide +kernel : ∀ o, o < 173 → bf_kd o = 10 → o + 1 ≠ 170) o (bf_kd_lt h (by decide)) h
theorem nx_12_1 {o : Nat} (h : bf_kd o = 12) : o + 1 ≠ 170 := (by decide +kernel : ∀ o, o < 173 → bf_kd o = 12 → o + 1 ≠ 170) o (bf_kd_lt h (by decide)) h
theorem nx_12_2 {o : Nat} (h : bf_kd o = 12) : o + 2 ≠ 170 := (by decide +kernel : ∀ o, o < 173 → bf_kd o = 12 → o + 2 ≠ 170) o (bf_kd_lt h (by decide)) h
theorem nx_12_3 {o : Nat} (h : bf_kd o = 12) : o + 3 ≠ 170 := (by decide +kernel : ∀ o, o < 173 → bf_kd o = 12 → o + 3 ≠ 170) o (bf_kd_lt h (by decide)) h
theorem nx_12_4 {o : Nat} (h : bf_kd o = 12) : o + 4 ≠ 170 := (by decide +kernel : ∀ o, o < 173 → bf_kd o = 12 → o + 4 ≠ 170) o (bf_kd_lt h (by decide)) h
theorem nx_12_5 {o : Nat} (h : bf_kd o = 12) : o + 5 ≠ 170 := (by decide +kernel : ∀ o, o < 173 → bf_kd o = 12 → o + 5 ≠ 170) o (bf_kd_lt h (by decide)) h
theorem nx_12_8 {o : Nat} (h : bf_kd o = 12) : o + 8 ≠ 170 := (by decide +kernel : ∀ o, o < 173 → bf_kd o = 12 → o + 8 ≠ 170) o (bf_kd_lt h (by decide)) h
theorem nx_12_9 {o : Nat} (h : bf_kd o = 12) : o + 9 ≠ 170 := (by decide +kernel : ∀ o, o < 173 → bf_kd o = 12 → o + 9 ≠ 170) o (bf_kd_lt h (by decide)) h
theorem nx_12_10 {o : Nat} (h : bf_kd o = 12) : o + 10 ≠ 170 := (by decide +kernel : ∀ o, o < 173 → bf_kd o = 12 → o + 10 ≠ 170) o (bf_kd_lt h (by decide)) h
theorem nx_12_11 {o : Nat} (h : bf_kd o = 12) : o + 11 ≠ 170 := (by decide +kernel : ∀ o, o < 173 → bf_kd o = 12 → o + 11 ≠ 170) o (bf_kd_lt h (by decide)) h
theorem nx_12_12 {o : Nat} (h : bf_kd o = 12) : o + 12 ≠ 170 := (by decide +kernel : ∀ o, o < 173 → bf_kd o = 12 → o + 12 ≠ 170) o (bf_kd_lt h (by decide)) h
theorem nx_12_13 {o : Nat} (h : bf_kd o = 12) : o + 13 ≠ 170 := (by decide +kernel : ∀ o, o < 173 → bf_kd o = 12 → o + 13 ≠ 170) o (bf_kd_lt h (by decide)) h
theorem nx_12_15 {o : Nat} (h : bf_kd o = 12) : o + 15 ≠ 170 := (by decide +kernel : ∀ o, o < 173 → bf_kd o = 12 → o + 15 ≠ 170) o (bf_kd_lt h (by decide)) h
theorem km_4 {o : Nat} (h : bf_kd o = 4) (j : Nat) (hj : j < 9) : bf_kd (o + 4 + 1 + j) = 14 := (by decide +kernel : ∀ o, o < 173 → bf_kd o = 4 → ∀ j, j < 9 → bf_kd (o + 4 + 1 + j) = 14) o (bf_kd_lt h (by decide)) h j hj
theorem lm_4 {o : Nat} (h : bf_kd o = 4) (j : Nat) (hj : j < 9) : bf_le (o + 4 + 1 + j) = 8 := (by decide +kernel : ∀ o, o < 173 → bf_kd o = 4 → ∀ j, j < 9 → bf_le (o + 4 + 1 + j) = 8) o (bf_kd_lt h (by decide)) h j hj
theorem ne170m {o : Nat} (h : bf_kd o = 4) (j : Nat) (hj : j < 9) : o + 4 + 1 + j ≠ 170 := (by decide +kernel : ∀ o, o < 173 → bf_kd o = 4 → ∀ j, j < 9 → o + 4 + 1 + j ≠ 170) o (bf_kd_lt h (by decide)) h j hj
theorem bf_I0_z {p : Nat} (h : bf_kd p ≠ 8) (h2 : p ≠ 170) : bf_I0 p = fun _ => 0 := by unfold bf_I0; rw [if_neg h, if_neg h2]
theorem bf_R0_z {p j : Nat} (h : ¬ bf_kd p < 13) (h2 : bf_kd p < 16) : bf_R0 p j = none := by unfold bf_R0; rw [if_neg h, if_pos h2]
theorem rm_20 {p : Nat} (h : bf_kd p = 20) : bf_R0 p = fun j => if j < 9 then some (p + 1 + j) else none := by
  have h2 : bf_le p = 9 := (by decide +kernel : ∀ a, a < 173 → bf_kd a = 20 → bf_le a = 9) p (bf_kd_lt h (by decide)) h
  funext j
  unfold bf_R0
  rw [h, h2]
  rfl
theorem dv_0 : ∀ j, j < 3 → defaultValue (tyX0 j) = (if bf_fo 0 j = 0 then .int 0 else .null) := by
  intro j hj
  match j, hj with
  | 0, _ => rfl
  | 1, _ => rfl
  | 2, _ => rfl
  | j + 3, hj => exact absurd hj (by omega)
theorem rr_0 {o : Nat} (hk : bf_kd o = 0) : (fun _ => none) = bf_R0 o := by
  funext i
  unfold bf_R0
  rw [hk]
  match i with
  | 0 => rfl
  | 1 => rfl
  | 2 => rfl
  | i + 3 => first | rfl | simp [va_up, bf_fo, bf_fk]
theorem ri_0 {o : Nat} (hk : bf_kd o = 0) : (va_up (va_up (va_up (fun _ => 0) 0 0) 1 0) 2 0) = bf_I0 o := by
  rw [bf_I0_z (by rw [hk]; decide) ((by decide +kernel : ∀ o, o < 173 → bf_kd o = 0 → o ≠ 170) o (bf_kd_lt hk (by decide)) hk)]
  try simp only [bf_up0]
theorem dv_1 : ∀ j, j < 6 → defaultValue (tyX1 j) = (if bf_fo 1 j = 0 then .int 0 else .null) := by
  intro j hj
  match j, hj with
  | 0, _ => rfl
  | 1, _ => rfl
  | 2, _ => rfl
  | 3, _ => rfl
  | 4, _ => rfl
  | 5, _ => rfl
  | j + 6, hj => exact absurd hj (by omega)
theorem rr_1 {o : Nat} (hk : bf_kd o = 1) : (va_up (fun _ => none) 5 (some (o + 1))) = bf_R0 o := by
  funext i
  unfold bf_R0
  rw [hk]
  match i with
  | 0 => rfl
  | 1 => rfl
  | 2 => rfl
  | 3 => rfl
  | 4 => rfl
  | 5 => rfl
  | i + 6 => first | rfl | simp [va_up, bf_fo, bf_fk]
theorem ri_1 {o : Nat} (hk : bf_kd o = 1) : (fun _ => 0) = bf_I0 o := by
  rw [bf_I0_z (by rw [hk]; decide) ((by decide +kernel : ∀ o, o < 173 → bf_kd o = 1 → o ≠ 170) o (bf_kd_lt hk (by decide)) hk)]
  try simp only [bf_up0]
theorem dv_2 : ∀ j, j < 1 → defaultValue (tyX2 j) = (if bf_fo 2 j = 0 then .int 0 else .null) := by
  intro j hj
  match j, hj with
  | 0, _ => rfl
  | j + 1, hj => exact absurd hj (by omega)
theorem rr_2 {o : Nat} (hk : bf_kd o = 2) : (va_up (fun _ => none) 0 (some (o + 1))) = bf_R0 o := by
  funext i
  unfold bf_R0
  rw [hk]
  match i with
  | 0 => rfl
  | i + 1 => first | rfl | simp [va_up, bf_fo, bf_fk]
theorem ri_2 {o : Nat} (hk : bf_kd o = 2) : (fun _ => 0) = bf_I0 o := by
  rw [bf_I0_z (by rw [hk]; decide) ((by decide +kernel : ∀ o, o < 173 → bf_kd o = 2 → o ≠ 170) o (bf_kd_lt hk (by decide)) hk)]
  try simp only [bf_up0]
theorem dv_3 : ∀ j, j < 4 → defaultValue (tyX3 j) = (if bf_fo 3 j = 0 then .int 0 else .null) := by
  intro j hj
  match j, hj with
  | 0, _ => rfl
  | 1, _ => rfl
  | 2, _ => rfl
  | 3, _ => rfl
  | j + 4, hj => exact absurd hj (by omega)
theorem rr_3 {o : Nat} (hk : bf_kd o = 3) : (va_up (va_up (fun _ => none) 0 (some (o + 1))) 1 (some (o + 8))) = bf_R0 o := by
  funext i
  unfold bf_R0
  rw [hk]
  match i with
  | 0 => rfl
  | 1 => rfl
  | 2 => rfl
  | 3 => rfl
  | i + 4 => first | rfl | simp [va_up, bf_fo, bf_fk]
theorem ri_3 {o : Nat} (hk : bf_kd o = 3) : (va_up (va_up (fun _ => 0) 2 (0)) 3 (0)) = bf_I0 o := by
  rw [bf_I0_z (by rw [hk]; decide) ((by decide +kernel : ∀ o, o < 173 → bf_kd o = 3 → o ≠ 170) o (bf_kd_lt hk (by decide)) hk)]
  try simp only [bf_up0]
theorem dv_4 : ∀ j, j < 5 → defaultValue (tyX4 j) = (if bf_fo 4 j = 0 then .int 0 else .null) := by
  intro j hj
  match j, hj with
  | 0, _ => rfl
  | 1, _ => rfl
  | 2, _ => rfl
  | 3, _ => rfl
  | 4, _ => rfl
  | j + 5, hj => exact absurd hj (by omega)
theorem rr_4 {o : Nat} (hk : bf_kd o = 4) : (va_up (va_up (va_up (fun _ => none) 0 (some (o + 1))) 1 (some (o + 3))) 2 (some (o + 4))) = bf_R0 o := by
  funext i
  unfold bf_R0
  rw [hk]
  match i with
  | 0 => rfl
  | 1 => rfl
  | 2 => rfl
  | 3 => rfl
  | 4 => rfl
  | i + 5 => first | rfl | simp [va_up, bf_fo, bf_fk]
theorem ri_4 {o : Nat} (hk : bf_kd o = 4) : (fun _ => 0) = bf_I0 o := by
  rw [bf_I0_z (by rw [hk]; decide) ((by decide +kernel : ∀ o, o < 173 → bf_kd o = 4 → o ≠ 170) o (bf_kd_lt hk (by decide)) hk)]
  try simp only [bf_up0]
theorem dv_5 : ∀ j, j < 4 → defaultValue (tyX5 j) = (if bf_fo 5 j = 0 then .int 0 else .null) := by
  intro j hj
  match j, hj with
  | 0, _ => rfl
  | 1, _ => rfl
  | 2, _ => rfl
  | 3, _ => rfl
  | j + 4, hj => exact absurd hj (by omega)
theorem rr_5 {o : Nat} (hk : bf_kd o = 5) : (va_up (va_up (va_up (fun _ => none) 1 (some (o + 1))) 2 (some (o + 2))) 3 (some (o + 3))) = bf_R0 o := by
  funext i
  unfold bf_R0
  rw [hk]
  match i with
  | 0 => rfl
  | 1 => rfl
  | 2 => rfl
  | 3 => rfl
  | i + 4 => first | rfl | simp [va_up, bf_fo, bf_fk]
theorem ri_5 {o : Nat} (hk : bf_kd o = 5) : (va_up (fun _ => 0) 0 (0)) = bf_I0 o := by
  rw [bf_I0_z (by rw [hk]; decide) ((by decide +kernel : ∀ o, o < 173 → bf_kd o = 5 → o ≠ 170) o (bf_kd_lt hk (by decide)) hk)]
  try simp only [bf_up0]
theorem dv_6 : ∀ j, j < 10 → defaultValue (tyX6 j) = (if bf_fo 6 j = 0 then .int 0 else .null) := by
  intro j hj
  match j, hj with
  | 0, _ => rfl
  | 1, _ => rfl
  | 2, _ => rfl
  | 3, _ => rfl
  | 4, _ => rfl
  | 5, _ => rfl
  | 6, _ => rfl
  | 7, _ => rfl
  | 8, _ => rfl
  | 9, _ => rfl
  | j + 10, hj => exact absurd hj (by omega)
theorem rr_6 {o : Nat} (hk : bf_kd o = 6) : (va_up (va_up (va_up (va_up (va_up (va_up (fun _ => none) 3 (some (o + 1))) 4 (some (o + 2))) 6 (some (o + 3))) 7 (some (o + 4))) 8 (some (o + 5))) 9 (some (o + 6))) = bf_R0 o := by
  funext i
  unfold bf_R0
  rw [hk]
  match i with
  | 0 => rfl
  | 1 => rfl
  | 2 => rfl
  | 3 => rfl
  | 4 => rfl
  | 5 => rfl
  | 6 => rfl
  | 7 => rfl
  | 8 => rfl
  | 9 => rfl
  | i + 10 => first | rfl | simp [va_up, bf_fo, bf_fk]
theorem ri_6 {o : Nat} (hk : bf_kd o = 6) : (fun _ => 0) = bf_I0 o := by
  rw [bf_I0_z (by rw [hk]; decide) ((by decide +kernel : ∀ o, o < 173 → bf_kd o = 6 → o ≠ 170) o (bf_kd_lt hk (by decide)) hk)]
  try simp only [bf_up0]
theorem dv_7 : ∀ j, j < 4 → defaultValue (tyX7 j) = (if bf_fo 7 j = 0 then .int 0 else .null) := by
  intro j hj
  match j, hj with
  | 0, _ => rfl
  | 1, _ => rfl
  | 2, _ => rfl
  | 3, _ => rfl
  | j + 4, hj => exact absurd hj (by omega)
theorem rr_7 {o : Nat} (hk : bf_kd o = 7) : (va_up (va_up (va_up (va_up (fun _ => none) 0 (some (o + 1))) 1 (some (o + 26))) 2 (some (o + 30))) 3 (some (o + 34))) = bf_R0 o := by
  funext i
  unfold bf_R0
  rw [hk]
  match i with
  | 0 => rfl
  | 1 => rfl
  | 2 => rfl
  | 3 => rfl
  | i + 4 => first | rfl | simp [va_up, bf_fo, bf_fk]
theorem ri_7 {o : Nat} (hk : bf_kd o = 7) : (fun _ => 0) = bf_I0 o := by
  rw [bf_I0_z (by rw [hk]; decide) ((by decide +kernel : ∀ o, o < 173 → bf_kd o = 7 → o ≠ 170) o (bf_kd_lt hk (by decide)) hk)]
  try simp only [bf_up0]
theorem dv_8 : ∀ j, j < 3 → defaultValue (tyX8 j) = (if bf_fo 8 j = 0 then .int 0 else .null) := by
  intro j hj
  match j, hj with
  | 0, _ => rfl
  | 1, _ => rfl
  | 2, _ => rfl
  | j + 3, hj => exact absurd hj (by omega)
theorem rr_8 {o : Nat} (hk : bf_kd o = 8) : (va_up (fun _ => none) 2 (some (o + 1))) = bf_R0 o := by
  funext i
  unfold bf_R0
  rw [hk]
  match i with
  | 0 => rfl
  | 1 => rfl
  | 2 => rfl
  | i + 3 => first | rfl | simp [va_up, bf_fo, bf_fk]
theorem ri_8 {o : Nat} (hk : bf_kd o = 8) : (va_up (va_up (fun _ => 0) 0 (-1)) 1 (0)) = bf_I0 o := by unfold bf_I0; rw [if_pos hk]
theorem dv_9 : ∀ j, j < 5 → defaultValue (tyX9 j) = (if bf_fo 9 j = 0 then .int 0 else .null) := by
  intro j hj
  match j, hj with
  | 0, _ => rfl
  | 1, _ => rfl
  | 2, _ => rfl
  | 3, _ => rfl
  | 4, _ => rfl
  | j + 5, hj => exact absurd hj (by omega)
theorem rr_9 {o : Nat} (hk : bf_kd o = 9) : (va_up (va_up (fun _ => none) 3 (some (o + 1))) 2 (some (o + 2))) = bf_R0 o := by
  funext i
  unfold bf_R0
  rw [hk]
  match i with
  | 0 => rfl
  | 1 => rfl
  | 2 => rfl
  | 3 => rfl
  | 4 => rfl
  | i + 5 => first | rfl | simp [va_up, bf_fo, bf_fk]
theorem ri_9 {o : Nat} (hk : bf_kd o = 9) : (va_up (fun _ => 0) 0 (0)) = bf_I0 o := by
  rw [bf_I0_z (by rw [hk]; decide) ((by decide +kernel : ∀ o, o < 173 → bf_kd o = 9 → o ≠ 170) o (bf_kd_lt hk (by decide)) hk)]
  try simp only [bf_up0]
theorem dv_10 : ∀ j, j < 8 → defaultValue (tyX10 j) = (if bf_fo 10 j = 0 then .int 0 else .null) := by
  intro j hj
  match j, hj with
  | 0, _ => rfl
  | 1, _ => rfl
  | 2, _ => rfl
  | 3, _ => rfl
  | 4, _ => rfl
  | 5, _ => rfl
  | 6, _ => rfl
  | 7, _ => rfl
  | j + 8, hj => exact absurd hj (by omega)
theorem rr_10 {o : Nat} (hk : bf_kd o = 10) : (va_up (fun _ => none) 7 (some (o + 1))) = bf_R0 o := by
  funext i
  unfold bf_R0
  rw [hk]
  match i with
  | 0 => rfl
  | 1 => rfl
  | 2 => rfl
  | 3 => rfl
  | 4 => rfl
  | 5 => rfl
  | 6 => rfl
  | 7 => rfl
  | i + 8 => first | rfl | simp [va_up, bf_fo, bf_fk]
theorem ri_10 {o : Nat} (hk : bf_kd o = 10) : (va_up (va_up (va_up (fun _ => 0) 4 (0)) 5 0) 6 0) = bf_I0 o := by
  rw [bf_I0_z (by rw [hk]; decide) ((by decide +kernel : ∀ o, o < 173 → bf_kd o = 10 → o ≠ 170) o (bf_kd_lt hk (by decide)) hk)]
  try simp only [bf_up0]
theorem dv_11 : ∀ j, j < 8 → defaultValue (tyX11 j) = (if bf_fo 11 j = 0 then .int 0 else .null) := by
  intro j hj
  match j, hj with
  | 0, _ => rfl
  | 1, _ => rfl
  | 2, _ => rfl
  | 3, _ => rfl
  | 4, _ => rfl
  | 5, _ => rfl
  | 6, _ => rfl
  | 7, _ => rfl
  | j + 8, hj => exact absurd hj (by omega)
theorem rr_11 {o : Nat} (hk : bf_kd o = 11) : (va_up (va_up (va_up (va_up (va_up (va_up (va_up (fun _ => none) 0 (some (o + 1))) 1 (some (o + 39))) 3 (some (o + 77))) 4 (some (o + 102))) 5 (some (o + 110))) 6 (some (o + 124))) 7 (some (o + 143))) = bf_R0 o := by
  funext i
  unfold bf_R0
  rw [hk]
  match i with
  | 0 => rfl
  | 1 => rfl
  | 2 => rfl
  | 3 => rfl
  | 4 => rfl
  | 5 => rfl
  | 6 => rfl
  | 7 => rfl
  | i + 8 => first | rfl | simp [va_up, bf_fo, bf_fk]
theorem ri_11 {o : Nat} (hk : bf_kd o = 11) : (va_up (fun _ => 0) 2 (0)) = bf_I0 o := by
  rw [bf_I0_z (by rw [hk]; decide) ((by decide +kernel : ∀ o, o < 173 → bf_kd o = 11 → o ≠ 170) o (bf_kd_lt hk (by decide)) hk)]
  try simp only [bf_up0]
theorem dv_12 : ∀ j, j < 28 → defaultValue (tyX12 j) = (if bf_fo 12 j = 0 then .int 0 else .null) := by
  intro j hj
  match j, hj with
  | 0, _ => rfl
  | 1, _ => rfl
  | 2, _ => rfl
  | 3, _ => rfl
  | 4, _ => rfl
  | 5, _ => rfl
  | 6, _ => rfl
  | 7, _ => rfl
  | 8, _ => rfl
  | 9, _ => rfl
  | 10, _ => rfl
  | 11, _ => rfl
  | 12, _ => rfl
  | 13, _ => rfl
  | 14, _ => rfl
  | 15, _ => rfl
  | 16, _ => rfl
  | 17, _ => rfl
  | 18, _ => rfl
  | 19, _ => rfl
  | 20, _ => rfl
  | 21, _ => rfl
  | 22, _ => rfl
  | 23, _ => rfl
  | 24, _ => rfl
  | 25, _ => rfl
  | 26, _ => rfl
  | 27, _ => rfl
  | j + 28, hj => exact absurd hj (by omega)
theorem rr_12 {o : Nat} (hk : bf_kd o = 12) : (va_up (va_up (va_up (va_up (va_up (va_up (va_up (va_up (va_up (va_up (va_up (va_up (va_up (va_up (va_up (va_up (fun _ => none) 0 (some (o + 1))) 1 (some (o + 2))) 2 (some (o + 3))) 4 (some (o + 4))) 7 (some (o + 5))) 14 (some (o + 6))) 15 (some (o + 7))) 16 (some (o + 8))) 17 (some (o + 9))) 18 (some (o + 10))) 21 (some (o + 11))) 22 (some (o + 12))) 24 (some (o + 13))) 25 (some (o + 14))) 26 (some (o + 15))) 27 (some (o + 16))) = bf_R0 o := by
  funext i
  unfold bf_R0
  rw [hk]
  match i with
  | 0 => rfl
  | 1 => rfl
  | 2 => rfl
  | 3 => rfl
  | 4 => rfl
  | 5 => rfl
  | 6 => rfl
  | 7 => rfl
  | 8 => rfl
  | 9 => rfl
  | 10 => rfl
  | 11 => rfl
  | 12 => rfl
  | 13 => rfl
  | 14 => rfl
  | 15 => rfl
  | 16 => rfl
  | 17 => rfl
  | 18 => rfl
  | 19 => rfl
  | 20 => rfl
  | 21 => rfl
  | 22 => rfl
  | 23 => rfl
  | 24 => rfl
  | 25 => rfl
  | 26 => rfl
  | 27 => rfl
  | i + 28 => first | rfl | simp [va_up, bf_fo, bf_fk]
theorem ri_12 {o : Nat} (hk : bf_kd o = 12) : (fun _ => 0) = bf_I0 o := by
  rw [bf_I0_z (by rw [hk]; decide) ((by decide +kernel : ∀ o, o < 173 → bf_kd o = 12 → o ≠ 170) o (bf_kd_lt hk (by decide)) hk)]
  try simp only [bf_up0]
theorem ri_170 {o : Nat} (hk : bf_kd o = 12) : (va_up (va_up (va_up (va_up (va_up (va_up (fun _ => 0) 0 (-1)) 1 (-1)) 2 (-1)) 3 (-1)) 4 (-1)) 5 (-1)) = bf_I0 (o + 14) := by
  have h1 : o = 156 := (by decide +kernel : ∀ o, o < 173 → bf_kd o = 12 → o = 156) o (bf_kd_lt hk (by decide)) hk
  subst h1
  unfold bf_I0
  rw [if_neg (by decide +kernel), if_pos rfl]
theorem rq_3_1 {o : Nat} (hk : bf_kd o = 3) : (va_up (va_up (va_up (va_up (va_up (va_up (fun _ => none) 0 (some (o + 2))) 1 (some (o + 3))) 2 (some (o + 4))) 3 (some (o + 5))) 4 (some (o + 6))) 5 (some (o + 7))) = bf_R0 (o + 1) := by
  have h1 := kx_3_1 hk
  have h2 := lx_3_1 hk
  funext i
  unfold bf_R0
  rw [h1, h2]
  match i with
  | 0 => rfl
  | 1 => rfl
  | 2 => rfl
  | 3 => rfl
  | 4 => rfl
  | 5 => rfl
  | i + 6 => first | rfl | simp [va_up]
theorem rq_3_8 {o : Nat} (hk : bf_kd o = 3) : (va_up (va_up (va_up (va_up (va_up (va_up (va_up (va_up (fun _ => none) 0 (some (o + 9))) 1 (some (o + 11))) 2 (some (o + 13))) 3 (some (o + 15))) 4 (some (o + 17))) 5 (some (o + 19))) 6 (some (o + 21))) 7 (some (o + 23))) = bf_R0 (o + 8) := by
  have h1 := kx_3_8 hk
  have h2 := lx_3_8 hk
  funext i
  unfold bf_R0
  rw [h1, h2]
  match i with
  | 0 => rfl
  | 1 => rfl
  | 2 => rfl
  | 3 => rfl
  | 4 => rfl
  | 5 => rfl
  | 6 => rfl
  | 7 => rfl
  | i + 8 => first | rfl | simp [va_up]
theorem rq_9_2 {o : Nat} (hk : bf_kd o = 9) : (va_up (va_up (va_up (va_up (va_up (va_up (va_up (va_up (fun _ => none) 0 (some (o + 3))) 1 (some (o + 5))) 2 (some (o + 7))) 3 (some (o + 9))) 4 (some (o + 11))) 5 (some (o + 13))) 6 (some (o + 15))) 7 (some (o + 17))) = bf_R0 (o + 2) := by
  have h1 := kx_9_2 hk
  have h2 := lx_9_2 hk
  funext i
  unfold bf_R0
  rw [h1, h2]
  match i with
  | 0 => rfl
  | 1 => rfl
  | 2 => rfl
  | 3 => rfl
  | 4 => rfl
  | 5 => rfl
  | 6 => rfl
  | 7 => rfl
  | i + 8 => first | rfl | simp [va_up]
theorem rq_11_143 {o : Nat} (hk : bf_kd o = 11) : (va_up (va_up (va_up (va_up (va_up (va_up (fun _ => none) 0 (some (o + 144))) 1 (some (o + 146))) 2 (some (o + 148))) 3 (some (o + 150))) 4 (some (o + 152))) 5 (some (o + 154))) = bf_R0 (o + 143) := by
  have h1 := kx_11_143 hk
  have h2 := lx_11_143 hk
  funext i
  unfold bf_R0
  rw [h1, h2]
  match i with
  | 0 => rfl
  | 1 => rfl
  | 2 => rfl
  | 3 => rfl
  | 4 => rfl
  | 5 => rfl
  | i + 6 => first | rfl | simp [va_up]
theorem wx_X0_init : yX0_init.cls ≠ "java/lang/invoke/MethodHandle" ∧ yX0_init.cls ≠ "java/lang/invoke/VarHandle" ∧ (parseMethodDescriptor yX0_init.desc).map (fun d => d.parameters.length) = some 0 := by decide +kernel
theorem wx_X10_init : yX10_init.cls ≠ "java/lang/invoke/MethodHandle" ∧ yX10_init.cls ≠ "java/lang/invoke/VarHandle" ∧ (parseMethodDescriptor yX10_init.desc).map (fun d => d.parameters.length) = some 0 := by decide +kernel
theorem wx_X1_init : yX1_init.cls ≠ "java/lang/invoke/MethodHandle" ∧ yX1_init.cls ≠ "java/lang/invoke/VarHandle" ∧ (parseMethodDescriptor yX1_init.desc).map (fun d => d.parameters.length) = some 0 := by decide +kernel
theorem wx_X2_init : yX2_init.cls ≠ "java/lang/invoke/MethodHandle" ∧ yX2_init.cls ≠ "java/lang/invoke/VarHandle" ∧ (parseMethodDescriptor yX2_init.desc).map (fun d => d.parameters.length) = some 0 := by decide +kernel
theorem wx_X8_init : yX8_init.cls ≠ "java/lang/invoke/MethodHandle" ∧ yX8_init.cls ≠ "java/lang/invoke/VarHandle" ∧ (parseMethodDescriptor yX8_init.desc).map (fun d => d.parameters.length) = some 0 := by decide +kernel
theorem wx_X5_init : yX5_init.cls ≠ "java/lang/invoke/MethodHandle" ∧ yX5_init.cls ≠ "java/lang/invoke/VarHandle" ∧ (parseMethodDescriptor yX5_init.desc).map (fun d => d.parameters.length) = some 1 := by decide +kernel
theorem wx_X3_init : yX3_init.cls ≠ "java/lang/invoke/MethodHandle" ∧ yX3_init.cls ≠ "java/lang/invoke/VarHandle" ∧ (parseMethodDescriptor yX3_init.desc).map (fun d => d.parameters.length) = some 0 := by decide +kernel
theorem wx_X7_init : yX7_init.cls ≠ "java/lang/invoke/MethodHandle" ∧ yX7_init.cls ≠ "java/lang/invoke/VarHandle" ∧ (parseMethodDescriptor yX7_init.desc).map (fun d => d.parameters.length) = some 0 := by decide +kernel
theorem wx_X6_init : yX6_init.cls ≠ "java/lang/invoke/MethodHandle" ∧ yX6_init.cls ≠ "java/lang/invoke/VarHandle" ∧ (parseMethodDescriptor yX6_init.desc).map (fun d => d.parameters.length) = some 0 := by decide +kernel
theorem wx_X4_init : yX4_init.cls ≠ "java/lang/invoke/MethodHandle" ∧ yX4_init.cls ≠ "java/lang/invoke/VarHandle" ∧ (parseMethodDescriptor yX4_init.desc).map (fun d => d.parameters.length) = some 0 := by decide +kernel
theorem wx_X9_init : yX9_init.cls ≠ "java/lang/invoke/MethodHandle" ∧ yX9_init.cls ≠ "java/lang/invoke/VarHandle" ∧ (parseMethodDescriptor yX9_init.desc).map (fun d => d.parameters.length) = some 0 := by decide +kernel
theorem wx_X11_init : yX11_init.cls ≠ "java/lang/invoke/MethodHandle" ∧ yX11_init.cls ≠ "java/lang/invoke/VarHandle" ∧ (parseMethodDescriptor yX11_init.desc).map (fun d => d.parameters.length) = some 0 := by decide +kernel
theorem wx_X12_init : yX12_init.cls ≠ "java/lang/invoke/MethodHandle" ∧ yX12_init.cls ≠ "java/lang/invoke/VarHandle" ∧ (parseMethodDescriptor yX12_init.desc).map (fun d => d.parameters.length) = some 0 := by decide +kernel
set_option maxRecDepth 100000 in
theorem okg_X0_become {Γ : bf_Gm} {n o : Nat} {ad : Nat → Nat} {I : Nat → Nat → Int32} {L : Nat → Nat → Int64} {Rf : Nat → Nat → Option Nat} {a b : Int32} (ho : o < n) (hk : bf_kd o = 0) : bf_Cn Γ 0 mu_X0_become 0 0 [.ref (ad o), .int a, .int b] (n, ad, I, L, Rf) (fun q h => q = none ∧ h = (n, ad, bf_u (bf_u (bf_u I o 0 a) o 1 b) o 2 0, L, Rf)) := by
  refine bf_met rfl (Nat.le_of_ble_eq_true rfl) ?_
  refine bf_aload_n 0 dX0_become_0 rfl rfl ?_
  refine bf_iload_n 1 dX0_become_1 rfl rfl ?_
  refine bf_xputI (i := 0) (ty := .int) tyX0 dX0_become_2 wf_X0_15 ho hk (by decide) rfl in_X0 tyX0_ok nmX0 (by decide) (by decide) (by decide) rfl (by decide +kernel) rfl rfl ?_
  refine bf_aload_n 0 dX0_become_5 rfl rfl ?_
  refine bf_iload_n 2 dX0_become_6 rfl rfl ?_
  refine bf_xputI (i := 1) (ty := .int) tyX0 dX0_become_7 wf_X0_19 ho hk (by decide) rfl in_X0 tyX0_ok nmX0 (by decide) (by decide) (by decide) rfl (by decide +kernel) rfl rfl ?_
  refine bf_aload_n 0 dX0_become_10 rfl rfl ?_
  refine bf_iconst (v := 0) dX0_become_11 (by decide) ?_
  refine bf_xputI (i := 2) (ty := .int) tyX0 dX0_become_12 wf_X0_22 ho hk (by decide) rfl in_X0 tyX0_ok nmX0 (by decide) (by decide) (by decide) rfl (by decide +kernel) rfl rfl ?_
  exact bf_vret dX0_become_15 rfl (Nat.le_refl _) (Nat.le_refl _) ⟨rfl, rfl⟩
set_option maxRecDepth 100000 in
theorem okg_X10_clear {Γ : bf_Gm} {n o : Nat} {ad : Nat → Nat} {I : Nat → Nat → Int32} {L : Nat → Nat → Int64} {Rf : Nat → Nat → Option Nat} (ho : o < n) (hk : bf_kd o = 10) : bf_Cn Γ 0 mu_X10_clear 0 0 [.ref (ad o)] (n, ad, I, L, Rf) (fun q h => q = none ∧ h = (n, ad, bf_u (bf_u I o 5 0) o 6 0, L, Rf)) := by
  refine bf_met rfl (Nat.le_of_ble_eq_true rfl) ?_
  refine bf_aload_n 0 dX10_clear_0 rfl rfl ?_
  refine bf_iconst (v := 0) dX10_clear_1 (by decide) ?_
  refine bf_xputI (i := 5) (ty := .int) tyX10 dX10_clear_2 wf_X10_35 ho hk (by decide) rfl in_X10 tyX10_ok nmX10 (by decide) (by decide) (by decide) rfl (by decide +kernel) rfl rfl ?_
  refine bf_aload_n 0 dX10_clear_5 rfl rfl ?_
  refine bf_iconst (v := 0) dX10_clear_6 (by decide) ?_
  refine bf_xputI (i := 6) (ty := .int) tyX10 dX10_clear_7 wf_X10_38 ho hk (by decide) rfl in_X10 tyX10_ok nmX10 (by decide) (by decide) (by decide) rfl (by decide +kernel) rfl rfl ?_
  exact bf_vret dX10_clear_10 rfl (Nat.le_refl _) (Nat.le_refl _) ⟨rfl, rfl⟩
