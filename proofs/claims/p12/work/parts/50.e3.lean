def r_codeOf (σ : ab_M) (c : Int32) : Int32 := (if c < 97 then (if c < 80 then (if c < 120 then (if c = 61 then 11 else (if c = 33 then 12 else (if c = 124 then 13 else (-1)))) else (if 122 < c then (if c = 61 then 11 else (if c = 33 then 12 else (if c = 124 then 13 else (-1)))) else (8 + (c - 120)))) else (if 83 < c then (if c < 120 then (if c = 61 then 11 else (if c = 33 then 12 else (if c = 124 then 13 else (-1)))) else (if 122 < c then (if c = 61 then 11 else (if c = 33 then 12 else (if c = 124 then 13 else (-1)))) else (8 + (c - 120)))) else (4 + (c - 80)))) else (if 100 < c then (if c < 80 then (if c < 120 then (if c = 61 then 11 else (if c = 33 then 12 else (if c = 124 then 13 else (-1)))) else (if 122 < c then (if c = 61 then 11 else (if c = 33 then 12 else (if c = 124 then 13 else (-1)))) else (8 + (c - 120)))) else (if 83 < c then (if c < 120 then (if c = 61 then 11 else (if c = 33 then 12 else (if c = 124 then 13 else (-1)))) else (if 122 < c then (if c = 61 then 11 else (if c = 33 then 12 else (if c = 124 then 13 else (-1)))) else (8 + (c - 120)))) else (4 + (c - 80)))) else (c - 97)))
set_option maxRecDepth 20000 in
theorem x_codeOf (σ : ab_M) (c : Int32) {Q : Option ab_V → ab_M → Prop} (k : Q (some (.inl (r_codeOf σ c))) σ) : evm mX7_codeOf [.inl c] σ Q := by
  show ev mX7_codeOf 0 [some (.inl c)] [] σ Q
  refine ev_p (pc' := 1) (ls' := [some (.inl c)]) (st' := [.inl c]) dX7_codeOf_0 rfl ?_
  refine ev_cst (v := 97) (pc' := 3) dX7_codeOf_1 (by decide) rfl ?_
  refine ev_ic_lt (tgt := 17) (pc' := 6) dX7_codeOf_3 (by decide) rfl (fun h1 => ?_) (fun h1 => ?_)
  · refine ev_p (pc' := 18) (ls' := [some (.inl c)]) (st' := [.inl c]) dX7_codeOf_17 rfl ?_
    refine ev_cst (v := 80) (pc' := 20) dX7_codeOf_18 (by decide) rfl ?_
    refine ev_ic_lt (tgt := 36) (pc' := 23) dX7_codeOf_20 (by decide) rfl (fun h2 => ?_) (fun h2 => ?_)
    · refine ev_p (pc' := 37) (ls' := [some (.inl c)]) (st' := [.inl c]) dX7_codeOf_36 rfl ?_
      refine ev_cst (v := 120) (pc' := 39) dX7_codeOf_37 (by decide) rfl ?_
      refine ev_ic_lt (tgt := 56) (pc' := 42) dX7_codeOf_39 (by decide) rfl (fun h3 => ?_) (fun h3 => ?_)
      · refine ev_p (pc' := 57) (ls' := [some (.inl c)]) (st' := [.inl c]) dX7_codeOf_56 rfl ?_
        refine ev_cst (v := 61) (pc' := 59) dX7_codeOf_57 (by decide) rfl ?_
        refine ev_ic_ne (tgt := 65) (pc' := 62) dX7_codeOf_59 (by decide) rfl (fun h4 => ?_) (fun h4 => ?_)
        · refine ev_p (pc' := 66) (ls' := [some (.inl c)]) (st' := [.inl c]) dX7_codeOf_65 rfl ?_
          refine ev_cst (v := 33) (pc' := 68) dX7_codeOf_66 (by decide) rfl ?_
          refine ev_ic_ne (tgt := 74) (pc' := 71) dX7_codeOf_68 (by decide) rfl (fun h5 => ?_) (fun h5 => ?_)
          · refine ev_p (pc' := 75) (ls' := [some (.inl c)]) (st' := [.inl c]) dX7_codeOf_74 rfl ?_
            refine ev_cst (v := 124) (pc' := 77) dX7_codeOf_75 (by decide) rfl ?_
            refine ev_ic_ne (tgt := 85) (pc' := 80) dX7_codeOf_77 (by decide) rfl (fun h6 => ?_) (fun h6 => ?_)
            · refine ev_cst (v := (-1)) (pc' := 86) dX7_codeOf_85 (by decide) rfl ?_
              refine ev_ret dX7_codeOf_86 rfl ?_
              simp only [r_codeOf, if_pos h1, if_pos h2, if_pos h3, if_neg h4, if_neg h5, if_neg h6] at k
              exact k
            · refine ev_cst (v := 13) (pc' := 82) dX7_codeOf_80 (by decide) rfl ?_
              refine ev_go (tgt := 86) dX7_codeOf_82 (by decide) ?_
              refine ev_ret dX7_codeOf_86 rfl ?_
              simp only [r_codeOf, if_pos h1, if_pos h2, if_pos h3, if_neg h4, if_neg h5, if_pos h6] at k
              exact k
          · refine ev_cst (v := 12) (pc' := 73) dX7_codeOf_71 (by decide) rfl ?_
            refine ev_ret dX7_codeOf_73 rfl ?_
            simp only [r_codeOf, if_pos h1, if_pos h2, if_pos h3, if_neg h4, if_pos h5] at k
            exact k
        · refine ev_cst (v := 11) (pc' := 64) dX7_codeOf_62 (by decide) rfl ?_
          refine ev_ret dX7_codeOf_64 rfl ?_
          simp only [r_codeOf, if_pos h1, if_pos h2, if_pos h3, if_pos h4] at k
          exact k
      · refine ev_p (pc' := 43) (ls' := [some (.inl c)]) (st' := [.inl c]) dX7_codeOf_42 rfl ?_
        refine ev_cst (v := 122) (pc' := 45) dX7_codeOf_43 (by decide) rfl ?_
        refine ev_ic_gt (tgt := 56) (pc' := 48) dX7_codeOf_45 (by decide) rfl (fun h7 => ?_) (fun h7 => ?_)
        · refine ev_p (pc' := 57) (ls' := [some (.inl c)]) (st' := [.inl c]) dX7_codeOf_56 rfl ?_
          refine ev_cst (v := 61) (pc' := 59) dX7_codeOf_57 (by decide) rfl ?_
          refine ev_ic_ne (tgt := 65) (pc' := 62) dX7_codeOf_59 (by decide) rfl (fun h8 => ?_) (fun h8 => ?_)
          · refine ev_p (pc' := 66) (ls' := [some (.inl c)]) (st' := [.inl c]) dX7_codeOf_65 rfl ?_
            refine ev_cst (v := 33) (pc' := 68) dX7_codeOf_66 (by decide) rfl ?_
            refine ev_ic_ne (tgt := 74) (pc' := 71) dX7_codeOf_68 (by decide) rfl (fun h9 => ?_) (fun h9 => ?_)
            · refine ev_p (pc' := 75) (ls' := [some (.inl c)]) (st' := [.inl c]) dX7_codeOf_74 rfl ?_
              refine ev_cst (v := 124) (pc' := 77) dX7_codeOf_75 (by decide) rfl ?_
              refine ev_ic_ne (tgt := 85) (pc' := 80) dX7_codeOf_77 (by decide) rfl (fun h10 => ?_) (fun h10 => ?_)
              · refine ev_cst (v := (-1)) (pc' := 86) dX7_codeOf_85 (by decide) rfl ?_
                refine ev_ret dX7_codeOf_86 rfl ?_
                simp only [r_codeOf, if_pos h1, if_pos h2, if_neg h3, if_pos h7, if_neg h8, if_neg h9, if_neg h10] at k
                exact k
              · refine ev_cst (v := 13) (pc' := 82) dX7_codeOf_80 (by decide) rfl ?_
                refine ev_go (tgt := 86) dX7_codeOf_82 (by decide) ?_
                refine ev_ret dX7_codeOf_86 rfl ?_
                simp only [r_codeOf, if_pos h1, if_pos h2, if_neg h3, if_pos h7, if_neg h8, if_neg h9, if_pos h10] at k
                exact k
            · refine ev_cst (v := 12) (pc' := 73) dX7_codeOf_71 (by decide) rfl ?_
              refine ev_ret dX7_codeOf_73 rfl ?_
              simp only [r_codeOf, if_pos h1, if_pos h2, if_neg h3, if_pos h7, if_neg h8, if_pos h9] at k
              exact k
          · refine ev_cst (v := 11) (pc' := 64) dX7_codeOf_62 (by decide) rfl ?_
            refine ev_ret dX7_codeOf_64 rfl ?_
            simp only [r_codeOf, if_pos h1, if_pos h2, if_neg h3, if_pos h7, if_pos h8] at k
            exact k
        · refine ev_cst (v := 8) (pc' := 50) dX7_codeOf_48 (by decide) rfl ?_
          refine ev_p (pc' := 51) (ls' := [some (.inl c)]) (st' := [.inl c, .inl 8]) dX7_codeOf_50 rfl ?_
          refine ev_cst (v := 120) (pc' := 53) dX7_codeOf_51 (by decide) rfl ?_
          refine ev_p (pc' := 54) (ls' := [some (.inl c)]) (st' := [.inl (c - 120), .inl 8]) dX7_codeOf_53 rfl ?_
          refine ev_p (pc' := 55) (ls' := [some (.inl c)]) (st' := [.inl (8 + (c - 120))]) dX7_codeOf_54 rfl ?_
          refine ev_ret dX7_codeOf_55 rfl ?_
          simp only [r_codeOf, if_pos h1, if_pos h2, if_neg h3, if_neg h7] at k
          exact k
    · refine ev_p (pc' := 24) (ls' := [some (.inl c)]) (st' := [.inl c]) dX7_codeOf_23 rfl ?_
      refine ev_cst (v := 83) (pc' := 26) dX7_codeOf_24 (by decide) rfl ?_
      refine ev_ic_gt (tgt := 36) (pc' := 29) dX7_codeOf_26 (by decide) rfl (fun h11 => ?_) (fun h11 => ?_)
      · refine ev_p (pc' := 37) (ls' := [some (.inl c)]) (st' := [.inl c]) dX7_codeOf_36 rfl ?_
        refine ev_cst (v := 120) (pc' := 39) dX7_codeOf_37 (by decide) rfl ?_
        refine ev_ic_lt (tgt := 56) (pc' := 42) dX7_codeOf_39 (by decide) rfl (fun h12 => ?_) (fun h12 => ?_)
        · refine ev_p (pc' := 57) (ls' := [some (.inl c)]) (st' := [.inl c]) dX7_codeOf_56 rfl ?_
          refine ev_cst (v := 61) (pc' := 59) dX7_codeOf_57 (by decide) rfl ?_
          refine ev_ic_ne (tgt := 65) (pc' := 62) dX7_codeOf_59 (by decide) rfl (fun h13 => ?_) (fun h13 => ?_)
          · refine ev_p (pc' := 66) (ls' := [some (.inl c)]) (st' := [.inl c]) dX7_codeOf_65 rfl ?_
            refine ev_cst (v := 33) (pc' := 68) dX7_codeOf_66 (by decide) rfl ?_
            refine ev_ic_ne (tgt := 74) (pc' := 71) dX7_codeOf_68 (by decide) rfl (fun h14 => ?_) (fun h14 => ?_)
            · refine ev_p (pc' := 75) (ls' := [some (.inl c)]) (st' := [.inl c]) dX7_codeOf_74 rfl ?_
              refine ev_cst (v := 124) (pc' := 77) dX7_codeOf_75 (by decide) rfl ?_
              refine ev_ic_ne (tgt := 85) (pc' := 80) dX7_codeOf_77 (by decide) rfl (fun h15 => ?_) (fun h15 => ?_)
              · refine ev_cst (v := (-1)) (pc' := 86) dX7_codeOf_85 (by decide) rfl ?_
                refine ev_ret dX7_codeOf_86 rfl ?_
                simp only [r_codeOf, if_pos h1, if_neg h2, if_pos h11, if_pos h12, if_neg h13, if_neg h14, if_neg h15] at k
                exact k
              · refine ev_cst (v := 13) (pc' := 82) dX7_codeOf_80 (by decide) rfl ?_
                refine ev_go (tgt := 86) dX7_codeOf_82 (by decide) ?_
                refine ev_ret dX7_codeOf_86 rfl ?_
                simp only [r_codeOf, if_pos h1, if_neg h2, if_pos h11, if_pos h12, if_neg h13, if_neg h14, if_pos h15] at k
                exact k
            · refine ev_cst (v := 12) (pc' := 73) dX7_codeOf_71 (by decide) rfl ?_
              refine ev_ret dX7_codeOf_73 rfl ?_
              simp only [r_codeOf, if_pos h1, if_neg h2, if_pos h11, if_pos h12, if_neg h13, if_pos h14] at k
              exact k
          · refine ev_cst (v := 11) (pc' := 64) dX7_codeOf_62 (by decide) rfl ?_
            refine ev_ret dX7_codeOf_64 rfl ?_
            simp only [r_codeOf, if_pos h1, if_neg h2, if_pos h11, if_pos h12, if_pos h13] at k
            exact k
        · refine ev_p (pc' := 43) (ls' := [some (.inl c)]) (st' := [.inl c]) dX7_codeOf_42 rfl ?_
          refine ev_cst (v := 122) (pc' := 45) dX7_codeOf_43 (by decide) rfl ?_
          refine ev_ic_gt (tgt := 56) (pc' := 48) dX7_codeOf_45 (by decide) rfl (fun h16 => ?_) (fun h16 => ?_)
          · refine ev_p (pc' := 57) (ls' := [some (.inl c)]) (st' := [.inl c]) dX7_codeOf_56 rfl ?_
            refine ev_cst (v := 61) (pc' := 59) dX7_codeOf_57 (by decide) rfl ?_
            refine ev_ic_ne (tgt := 65) (pc' := 62) dX7_codeOf_59 (by decide) rfl (fun h17 => ?_) (fun h17 => ?_)
            · refine ev_p (pc' := 66) (ls' := [some (.inl c)]) (st' := [.inl c]) dX7_codeOf_65 rfl ?_
              refine ev_cst (v := 33) (pc' := 68) dX7_codeOf_66 (by decide) rfl ?_
              refine ev_ic_ne (tgt := 74) (pc' := 71) dX7_codeOf_68 (by decide) rfl (fun h18 => ?_) (fun h18 => ?_)
              · refine ev_p (pc' := 75) (ls' := [some (.inl c)]) (st' := [.inl c]) dX7_codeOf_74 rfl ?_
                refine ev_cst (v := 124) (pc' := 77) dX7_codeOf_75 (by decide) rfl ?_
                refine ev_ic_ne (tgt := 85) (pc' := 80) dX7_codeOf_77 (by decide) rfl (fun h19 => ?_) (fun h19 => ?_)
                · refine ev_cst (v := (-1)) (pc' := 86) dX7_codeOf_85 (by decide) rfl ?_
                  refine ev_ret dX7_codeOf_86 rfl ?_
                  simp only [r_codeOf, if_pos h1, if_neg h2, if_pos h11, if_neg h12, if_pos h16, if_neg h17, if_neg h18, if_neg h19] at k
                  exact k
                · refine ev_cst (v := 13) (pc' := 82) dX7_codeOf_80 (by decide) rfl ?_
                  refine ev_go (tgt := 86) dX7_codeOf_82 (by decide) ?_
                  refine ev_ret dX7_codeOf_86 rfl ?_
                  simp only [r_codeOf, if_pos h1, if_neg h2, if_pos h11, if_neg h12, if_pos h16, if_neg h17, if_neg h18, if_pos h19] at k
                  exact k
              · refine ev_cst (v := 12) (pc' := 73) dX7_codeOf_71 (by decide) rfl ?_
                refine ev_ret dX7_codeOf_73 rfl ?_
                simp only [r_codeOf, if_pos h1, if_neg h2, if_pos h11, if_neg h12, if_pos h16, if_neg h17, if_pos h18] at k
                exact k
            · refine ev_cst (v := 11) (pc' := 64) dX7_codeOf_62 (by decide) rfl ?_
              refine ev_ret dX7_codeOf_64 rfl ?_
              simp only [r_codeOf, if_pos h1, if_neg h2, if_pos h11, if_neg h12, if_pos h16, if_pos h17] at k
              exact k
          · refine ev_cst (v := 8) (pc' := 50) dX7_codeOf_48 (by decide) rfl ?_
            refine ev_p (pc' := 51) (ls' := [some (.inl c)]) (st' := [.inl c, .inl 8]) dX7_codeOf_50 rfl ?_
            refine ev_cst (v := 120) (pc' := 53) dX7_codeOf_51 (by decide) rfl ?_
            refine ev_p (pc' := 54) (ls' := [some (.inl c)]) (st' := [.inl (c - 120), .inl 8]) dX7_codeOf_53 rfl ?_
            refine ev_p (pc' := 55) (ls' := [some (.inl c)]) (st' := [.inl (8 + (c - 120))]) dX7_codeOf_54 rfl ?_
            refine ev_ret dX7_codeOf_55 rfl ?_
            simp only [r_codeOf, if_pos h1, if_neg h2, if_pos h11, if_neg h12, if_neg h16] at k
            exact k
      · refine ev_cst (v := 4) (pc' := 30) dX7_codeOf_29 (by decide) rfl ?_
        refine ev_p (pc' := 31) (ls' := [some (.inl c)]) (st' := [.inl c, .inl 4]) dX7_codeOf_30 rfl ?_
        refine ev_cst (v := 80) (pc' := 33) dX7_codeOf_31 (by decide) rfl ?_
        refine ev_p (pc' := 34) (ls' := [some (.inl c)]) (st' := [.inl (c - 80), .inl 4]) dX7_codeOf_33 rfl ?_
        refine ev_p (pc' := 35) (ls' := [some (.inl c)]) (st' := [.inl (4 + (c - 80))]) dX7_codeOf_34 rfl ?_
        refine ev_ret dX7_codeOf_35 rfl ?_
        simp only [r_codeOf, if_pos h1, if_neg h2, if_neg h11] at k
        exact k
  · refine ev_p (pc' := 7) (ls' := [some (.inl c)]) (st' := [.inl c]) dX7_codeOf_6 rfl ?_
    refine ev_cst (v := 100) (pc' := 9) dX7_codeOf_7 (by decide) rfl ?_
    refine ev_ic_gt (tgt := 17) (pc' := 12) dX7_codeOf_9 (by decide) rfl (fun h20 => ?_) (fun h20 => ?_)
    · refine ev_p (pc' := 18) (ls' := [some (.inl c)]) (st' := [.inl c]) dX7_codeOf_17 rfl ?_
      refine ev_cst (v := 80) (pc' := 20) dX7_codeOf_18 (by decide) rfl ?_
      refine ev_ic_lt (tgt := 36) (pc' := 23) dX7_codeOf_20 (by decide) rfl (fun h21 => ?_) (fun h21 => ?_)
      · refine ev_p (pc' := 37) (ls' := [some (.inl c)]) (st' := [.inl c]) dX7_codeOf_36 rfl ?_
        refine ev_cst (v := 120) (pc' := 39) dX7_codeOf_37 (by decide) rfl ?_
        refine ev_ic_lt (tgt := 56) (pc' := 42) dX7_codeOf_39 (by decide) rfl (fun h22 => ?_) (fun h22 => ?_)
        · refine ev_p (pc' := 57) (ls' := [some (.inl c)]) (st' := [.inl c]) dX7_codeOf_56 rfl ?_
          refine ev_cst (v := 61) (pc' := 59) dX7_codeOf_57 (by decide) rfl ?_
          refine ev_ic_ne (tgt := 65) (pc' := 62) dX7_codeOf_59 (by decide) rfl (fun h23 => ?_) (fun h23 => ?_)
          · refine ev_p (pc' := 66) (ls' := [some (.inl c)]) (st' := [.inl c]) dX7_codeOf_65 rfl ?_
            refine ev_cst (v := 33) (pc' := 68) dX7_codeOf_66 (by decide) rfl ?_
            refine ev_ic_ne (tgt := 74) (pc' := 71) dX7_codeOf_68 (by decide) rfl (fun h24 => ?_) (fun h24 => ?_)
            · refine ev_p (pc' := 75) (ls' := [some (.inl c)]) (st' := [.inl c]) dX7_codeOf_74 rfl ?_
              refine ev_cst (v := 124) (pc' := 77) dX7_codeOf_75 (by decide) rfl ?_
              refine ev_ic_ne (tgt := 85) (pc' := 80) dX7_codeOf_77 (by decide) rfl (fun h25 => ?_) (fun h25 => ?_)
              · refine ev_cst (v := (-1)) (pc' := 86) dX7_codeOf_85 (by decide) rfl ?_
                refine ev_ret dX7_codeOf_86 rfl ?_
                simp only [r_codeOf, if_neg h1, if_pos h20, if_pos h21, if_pos h22, if_neg h23, if_neg h24, if_neg h25] at k
                exact k
              · refine ev_cst (v := 13) (pc' := 82) dX7_codeOf_80 (by decide) rfl ?_
                refine ev_go (tgt := 86) dX7_codeOf_82 (by decide) ?_
                refine ev_ret dX7_codeOf_86 rfl ?_
                simp only [r_codeOf, if_neg h1, if_pos h20, if_pos h21, if_pos h22, if_neg h23, if_neg h24, if_pos h25] at k
                exact k
            · refine ev_cst (v := 12) (pc' := 73) dX7_codeOf_71 (by decide) rfl ?_
              refine ev_ret dX7_codeOf_73 rfl ?_
              simp only [r_codeOf, if_neg h1, if_pos h20, if_pos h21, if_pos h22, if_neg h23, if_pos h24] at k
              exact k
          · refine ev_cst (v := 11) (pc' := 64) dX7_codeOf_62 (by decide) rfl ?_
            refine ev_ret dX7_codeOf_64 rfl ?_
            simp only [r_codeOf, if_neg h1, if_pos h20, if_pos h21, if_pos h22, if_pos h23] at k
            exact k
        · refine ev_p (pc' := 43) (ls' := [some (.inl c)]) (st' := [.inl c]) dX7_codeOf_42 rfl ?_
          refine ev_cst (v := 122) (pc' := 45) dX7_codeOf_43 (by decide) rfl ?_
          refine ev_ic_gt (tgt := 56) (pc' := 48) dX7_codeOf_45 (by decide) rfl (fun h26 => ?_) (fun h26 => ?_)
          · refine ev_p (pc' := 57) (ls' := [some (.inl c)]) (st' := [.inl c]) dX7_codeOf_56 rfl ?_
            refine ev_cst (v := 61) (pc' := 59) dX7_codeOf_57 (by decide) rfl ?_
            refine ev_ic_ne (tgt := 65) (pc' := 62) dX7_codeOf_59 (by decide) rfl (fun h27 => ?_) (fun h27 => ?_)
            · refine ev_p (pc' := 66) (ls' := [some (.inl c)]) (st' := [.inl c]) dX7_codeOf_65 rfl ?_
              refine ev_cst (v := 33) (pc' := 68) dX7_codeOf_66 (by decide) rfl ?_
              refine ev_ic_ne (tgt := 74) (pc' := 71) dX7_codeOf_68 (by decide) rfl (fun h28 => ?_) (fun h28 => ?_)
              · refine ev_p (pc' := 75) (ls' := [some (.inl c)]) (st' := [.inl c]) dX7_codeOf_74 rfl ?_
                refine ev_cst (v := 124) (pc' := 77) dX7_codeOf_75 (by decide) rfl ?_
                refine ev_ic_ne (tgt := 85) (pc' := 80) dX7_codeOf_77 (by decide) rfl (fun h29 => ?_) (fun h29 => ?_)
                · refine ev_cst (v := (-1)) (pc' := 86) dX7_codeOf_85 (by decide) rfl ?_
                  refine ev_ret dX7_codeOf_86 rfl ?_
                  simp only [r_codeOf, if_neg h1, if_pos h20, if_pos h21, if_neg h22, if_pos h26, if_neg h27, if_neg h28, if_neg h29] at k
                  exact k
                · refine ev_cst (v := 13) (pc' := 82) dX7_codeOf_80 (by decide) rfl ?_
                  refine ev_go (tgt := 86) dX7_codeOf_82 (by decide) ?_
                  refine ev_ret dX7_codeOf_86 rfl ?_
                  simp only [r_codeOf, if_neg h1, if_pos h20, if_pos h21, if_neg h22, if_pos h26, if_neg h27, if_neg h28, if_pos h29] at k
                  exact k
              · refine ev_cst (v := 12) (pc' := 73) dX7_codeOf_71 (by decide) rfl ?_
                refine ev_ret dX7_codeOf_73 rfl ?_
                simp only [r_codeOf, if_neg h1, if_pos h20, if_pos h21, if_neg h22, if_pos h26, if_neg h27, if_pos h28] at k
                exact k
            · refine ev_cst (v := 11) (pc' := 64) dX7_codeOf_62 (by decide) rfl ?_
              refine ev_ret dX7_codeOf_64 rfl ?_
              simp only [r_codeOf, if_neg h1, if_pos h20, if_pos h21, if_neg h22, if_pos h26, if_pos h27] at k
              exact k
          · refine ev_cst (v := 8) (pc' := 50) dX7_codeOf_48 (by decide) rfl ?_
            refine ev_p (pc' := 51) (ls' := [some (.inl c)]) (st' := [.inl c, .inl 8]) dX7_codeOf_50 rfl ?_
            refine ev_cst (v := 120) (pc' := 53) dX7_codeOf_51 (by decide) rfl ?_
            refine ev_p (pc' := 54) (ls' := [some (.inl c)]) (st' := [.inl (c - 120), .inl 8]) dX7_codeOf_53 rfl ?_
            refine ev_p (pc' := 55) (ls' := [some (.inl c)]) (st' := [.inl (8 + (c - 120))]) dX7_codeOf_54 rfl ?_
            refine ev_ret dX7_codeOf_55 rfl ?_
            simp only [r_codeOf, if_neg h1, if_pos h20, if_pos h21, if_neg h22, if_neg h26] at k
            exact k
      · refine ev_p (pc' := 24) (ls' := [some (.inl c)]) (st' := [.inl c]) dX7_codeOf_23 rfl ?_
        refine ev_cst (v := 83) (pc' := 26) dX7_codeOf_24 (by decide) rfl ?_
        refine ev_ic_gt (tgt := 36) (pc' := 29) dX7_codeOf_26 (by decide) rfl (fun h30 => ?_) (fun h30 => ?_)
        · refine ev_p (pc' := 37) (ls' := [some (.inl c)]) (st' := [.inl c]) dX7_codeOf_36 rfl ?_
          refine ev_cst (v := 120) (pc' := 39) dX7_codeOf_37 (by decide) rfl ?_
          refine ev_ic_lt (tgt := 56) (pc' := 42) dX7_codeOf_39 (by decide) rfl (fun h31 => ?_) (fun h31 => ?_)
          · refine ev_p (pc' := 57) (ls' := [some (.inl c)]) (st' := [.inl c]) dX7_codeOf_56 rfl ?_
            refine ev_cst (v := 61) (pc' := 59) dX7_codeOf_57 (by decide) rfl ?_
            refine ev_ic_ne (tgt := 65) (pc' := 62) dX7_codeOf_59 (by decide) rfl (fun h32 => ?_) (fun h32 => ?_)
            · refine ev_p (pc' := 66) (ls' := [some (.inl c)]) (st' := [.inl c]) dX7_codeOf_65 rfl ?_
              refine ev_cst (v := 33) (pc' := 68) dX7_codeOf_66 (by decide) rfl ?_
              refine ev_ic_ne (tgt := 74) (pc' := 71) dX7_codeOf_68 (by decide) rfl (fun h33 => ?_) (fun h33 => ?_)
              · refine ev_p (pc' := 75) (ls' := [some (.inl c)]) (st' := [.inl c]) dX7_codeOf_74 rfl ?_
                refine ev_cst (v := 124) (pc' := 77) dX7_codeOf_75 (by decide) rfl ?_
                refine ev_ic_ne (tgt := 85) (pc' := 80) dX7_codeOf_77 (by decide) rfl (fun h34 => ?_) (fun h34 => ?_)
                · refine ev_cst (v := (-1)) (pc' := 86) dX7_codeOf_85 (by decide) rfl ?_
                  refine ev_ret dX7_codeOf_86 rfl ?_
                  simp only [r_codeOf, if_neg h1, if_pos h20, if_neg h21, if_pos h30, if_pos h31, if_neg h32, if_neg h33, if_neg h34] at k
                  exact k
                · refine ev_cst (v := 13) (pc' := 82) dX7_codeOf_80 (by decide) rfl ?_
                  refine ev_go (tgt := 86) dX7_codeOf_82 (by decide) ?_
                  refine ev_ret dX7_codeOf_86 rfl ?_
                  simp only [r_codeOf, if_neg h1, if_pos h20, if_neg h21, if_pos h30, if_pos h31, if_neg h32, if_neg h33, if_pos h34] at k
                  exact k
              · refine ev_cst (v := 12) (pc' := 73) dX7_codeOf_71 (by decide) rfl ?_
                refine ev_ret dX7_codeOf_73 rfl ?_
                simp only [r_codeOf, if_neg h1, if_pos h20, if_neg h21, if_pos h30, if_pos h31, if_neg h32, if_pos h33] at k
                exact k
            · refine ev_cst (v := 11) (pc' := 64) dX7_codeOf_62 (by decide) rfl ?_
              refine ev_ret dX7_codeOf_64 rfl ?_
              simp only [r_codeOf, if_neg h1, if_pos h20, if_neg h21, if_pos h30, if_pos h31, if_pos h32] at k
              exact k
          · refine ev_p (pc' := 43) (ls' := [some (.inl c)]) (st' := [.inl c]) dX7_codeOf_42 rfl ?_
            refine ev_cst (v := 122) (pc' := 45) dX7_codeOf_43 (by decide) rfl ?_
            refine ev_ic_gt (tgt := 56) (pc' := 48) dX7_codeOf_45 (by decide) rfl (fun h35 => ?_) (fun h35 => ?_)
            · refine ev_p (pc' := 57) (ls' := [some (.inl c)]) (st' := [.inl c]) dX7_codeOf_56 rfl ?_
              refine ev_cst (v := 61) (pc' := 59) dX7_codeOf_57 (by decide) rfl ?_
              refine ev_ic_ne (tgt := 65) (pc' := 62) dX7_codeOf_59 (by decide) rfl (fun h36 => ?_) (fun h36 => ?_)
              · refine ev_p (pc' := 66) (ls' := [some (.inl c)]) (st' := [.inl c]) dX7_codeOf_65 rfl ?_
                refine ev_cst (v := 33) (pc' := 68) dX7_codeOf_66 (by decide) rfl ?_
                refine ev_ic_ne (tgt := 74) (pc' := 71) dX7_codeOf_68 (by decide) rfl (fun h37 => ?_) (fun h37 => ?_)
                · refine ev_p (pc' := 75) (ls' := [some (.inl c)]) (st' := [.inl c]) dX7_codeOf_74 rfl ?_
                  refine ev_cst (v := 124) (pc' := 77) dX7_codeOf_75 (by decide) rfl ?_
                  refine ev_ic_ne (tgt := 85) (pc' := 80) dX7_codeOf_77 (by decide) rfl (fun h38 => ?_) (fun h38 => ?_)
                  · refine ev_cst (v := (-1)) (pc' := 86) dX7_codeOf_85 (by decide) rfl ?_
                    refine ev_ret dX7_codeOf_86 rfl ?_
                    simp only [r_codeOf, if_neg h1, if_pos h20, if_neg h21, if_pos h30, if_neg h31, if_pos h35, if_neg h36, if_neg h37, if_neg h38] at k
                    exact k
                  · refine ev_cst (v := 13) (pc' := 82) dX7_codeOf_80 (by decide) rfl ?_
                    refine ev_go (tgt := 86) dX7_codeOf_82 (by decide) ?_
                    refine ev_ret dX7_codeOf_86 rfl ?_
                    simp only [r_codeOf, if_neg h1, if_pos h20, if_neg h21, if_pos h30, if_neg h31, if_pos h35, if_neg h36, if_neg h37, if_pos h38] at k
                    exact k
                · refine ev_cst (v := 12) (pc' := 73) dX7_codeOf_71 (by decide) rfl ?_
                  refine ev_ret dX7_codeOf_73 rfl ?_
                  simp only [r_codeOf, if_neg h1, if_pos h20, if_neg h21, if_pos h30, if_neg h31, if_pos h35, if_neg h36, if_pos h37] at k
                  exact k
              · refine ev_cst (v := 11) (pc' := 64) dX7_codeOf_62 (by decide) rfl ?_
                refine ev_ret dX7_codeOf_64 rfl ?_
                simp only [r_codeOf, if_neg h1, if_pos h20, if_neg h21, if_pos h30, if_neg h31, if_pos h35, if_pos h36] at k
                exact k
            · refine ev_cst (v := 8) (pc' := 50) dX7_codeOf_48 (by decide) rfl ?_
              refine ev_p (pc' := 51) (ls' := [some (.inl c)]) (st' := [.inl c, .inl 8]) dX7_codeOf_50 rfl ?_
              refine ev_cst (v := 120) (pc' := 53) dX7_codeOf_51 (by decide) rfl ?_
              refine ev_p (pc' := 54) (ls' := [some (.inl c)]) (st' := [.inl (c - 120), .inl 8]) dX7_codeOf_53 rfl ?_
              refine ev_p (pc' := 55) (ls' := [some (.inl c)]) (st' := [.inl (8 + (c - 120))]) dX7_codeOf_54 rfl ?_
              refine ev_ret dX7_codeOf_55 rfl ?_
              simp only [r_codeOf, if_neg h1, if_pos h20, if_neg h21, if_pos h30, if_neg h31, if_neg h35] at k
              exact k
        · refine ev_cst (v := 4) (pc' := 30) dX7_codeOf_29 (by decide) rfl ?_
          refine ev_p (pc' := 31) (ls' := [some (.inl c)]) (st' := [.inl c, .inl 4]) dX7_codeOf_30 rfl ?_
          refine ev_cst (v := 80) (pc' := 33) dX7_codeOf_31 (by decide) rfl ?_
          refine ev_p (pc' := 34) (ls' := [some (.inl c)]) (st' := [.inl (c - 80), .inl 4]) dX7_codeOf_33 rfl ?_
          refine ev_p (pc' := 35) (ls' := [some (.inl c)]) (st' := [.inl (4 + (c - 80))]) dX7_codeOf_34 rfl ?_
          refine ev_ret dX7_codeOf_35 rfl ?_
          simp only [r_codeOf, if_neg h1, if_pos h20, if_neg h21, if_neg h30] at k
          exact k
    · refine ev_p (pc' := 13) (ls' := [some (.inl c)]) (st' := [.inl c]) dX7_codeOf_12 rfl ?_
      refine ev_cst (v := 97) (pc' := 15) dX7_codeOf_13 (by decide) rfl ?_
      refine ev_p (pc' := 16) (ls' := [some (.inl c)]) (st' := [.inl (c - 97)]) dX7_codeOf_15 rfl ?_
      refine ev_ret dX7_codeOf_16 rfl ?_
      simp only [r_codeOf, if_neg h1, if_neg h20] at k
      exact k
def m_define (σ : ab_M) (c : Int32) (a : Int32) : ab_M := (if c < 0 then σ else (if 8 ≤ c then σ else (ab_upd σ 2 c.toNatClampNeg a)))
set_option maxRecDepth 20000 in
theorem x_define (σ : ab_M) (c : Int32) (a : Int32) {Q : Option ab_V → ab_M → Prop} (k : Q (none) (m_define σ c a)) : evm mX5_define [.inr (.inr 1), .inl c, .inl a] σ Q := by
  show ev mX5_define 0 [some (.inr (.inr 1)), some (.inl c), some (.inl a)] [] σ Q
  refine ev_p (pc' := 1) (ls' := [some (.inr (.inr 1)), some (.inl c), some (.inl a)]) (st' := [.inl c]) dX5_define_0 rfl ?_
  refine ev_if_lt (tgt := 17) (pc' := 4) dX5_define_1 (by decide) rfl (fun h1 => ?_) (fun h1 => ?_)
  · refine ev_ret dX5_define_17 rfl ?_
    simp only [m_define, if_pos h1] at k
    exact k
  · refine ev_p (pc' := 5) (ls' := [some (.inr (.inr 1)), some (.inl c), some (.inl a)]) (st' := [.inl c]) dX5_define_4 rfl ?_
    refine ev_cst (v := 8) (pc' := 7) dX5_define_5 (by decide) rfl ?_
    refine ev_ic_ge (tgt := 17) (pc' := 10) dX5_define_7 (by decide) rfl (fun h2 => ?_) (fun h2 => ?_)
    · refine ev_ret dX5_define_17 rfl ?_
      simp only [m_define, if_neg h1, if_pos h2] at k
      exact k
    · refine ev_p (pc' := 11) (ls' := [some (.inr (.inr 1)), some (.inl c), some (.inl a)]) (st' := [.inr (.inr 1)]) dX5_define_10 rfl ?_
      refine ev_getA (pc' := 14) (z := 2) dX5_define_11 rfl rfl rfl rfl ?_
      refine ev_p (pc' := 15) (ls' := [some (.inr (.inr 1)), some (.inl c), some (.inl a)]) (st' := [.inl c, .inr (.inr 2)]) dX5_define_14 rfl ?_
      refine ev_p (pc' := 16) (ls' := [some (.inr (.inr 1)), some (.inl c), some (.inl a)]) (st' := [.inl a, .inl c, .inr (.inr 2)]) dX5_define_15 rfl ?_
      refine ev_stor (pc' := 17) (z := a) rfl dX5_define_16 rfl rfl (ab_in_of (by first | omega | (simp only [Int32.lt_iff_toInt_lt, Int32.le_iff_toInt_le, li_0, li_1, li_2, li_3, li_4, li_8, li_9, li_60, li_128, li_m1] at *; omega)) (by first | omega | (simp only [Int32.lt_iff_toInt_lt, Int32.le_iff_toInt_le, li_0, li_1, li_2, li_3, li_4, li_8, li_9, li_60, li_128, li_m1] at *; omega))) rfl rfl ?_
      refine ev_ret dX5_define_17 rfl ?_
      simp only [m_define, if_neg h1, if_neg h2] at k
      exact k
def m_forgetAll (σ : ab_M)  : ab_M := (ab_upd σ 5 1 0)
set_option maxRecDepth 20000 in
theorem x_forgetAll (σ : ab_M)  {Q : Option ab_V → ab_M → Prop} (k : Q (none) (m_forgetAll σ )) : evm mX2_forgetAll [.inr (.inr 5)] σ Q := by
  show ev mX2_forgetAll 0 [some (.inr (.inr 5))] [] σ Q
  refine ev_p (pc' := 1) (ls' := [some (.inr (.inr 5))]) (st' := [.inr (.inr 5)]) dX2_forgetAll_0 rfl ?_
  refine ev_cst (v := 0) (pc' := 2) dX2_forgetAll_1 (by decide) rfl ?_
  refine ev_putI (pc' := 5) dX2_forgetAll_2 rfl rfl rfl rfl rfl rfl ?_
  refine ev_ret dX2_forgetAll_5 rfl ?_
  simp only [m_forgetAll] at k
  exact k
def r_symbol (σ : ab_M) (c : Int32) (a : Int32) : Int32 := (if (r_codeOf σ c) < 0 then 0 else (if 8 ≤ (r_codeOf σ c) then 0 else (if a < (-1) then 0 else (if a ≤ 2 then 1 else 0))))
def m_symbol (σ : ab_M) (c : Int32) (a : Int32) : ab_M := (if (r_codeOf σ c) < 0 then σ else (if 8 ≤ (r_codeOf σ c) then σ else (if a < (-1) then σ else (if a ≤ 2 then (ab_upd (m_forgetAll (m_define σ (r_codeOf σ c) a) ) 0 8 0) else σ))))
set_option maxRecDepth 20000 in
theorem x_symbol (σ : ab_M) (c : Int32) (a : Int32) {Q : Option ab_V → ab_M → Prop} (k : Q (some (.inl (r_symbol σ c a))) (m_symbol σ c a)) : evm mX7_symbol [.inr (.inr 0), .inl c, .inl a] σ Q := by
  show ev mX7_symbol 0 [some (.inr (.inr 0)), some (.inl c), some (.inl a), none] [] σ Q
  refine ev_p (pc' := 1) (ls' := [some (.inr (.inr 0)), some (.inl c), some (.inl a), none]) (st' := [.inl c]) dX7_symbol_0 rfl ?_
  refine ev_call (y := 11) (as := [.inl c]) (r := []) (M' := mX7_codeOf) (pc' := 4) dX7_symbol_1 rfl rfl ⟨rfl, rfl⟩ rfl (x_codeOf σ c  (Q := fun v τ => v = some (.inl (r_codeOf σ c)) ∧ τ = σ) ⟨rfl, rfl⟩) rfl (fun v τ hq => ?_)
  rw [hq.1, hq.2]
  change ev mX7_symbol 4 [some (.inr (.inr 0)), some (.inl c), some (.inl a), none] [.inl (r_codeOf σ c)] σ _
  refine ev_p (pc' := 5) (ls' := [some (.inr (.inr 0)), some (.inl c), some (.inl a), some (.inl (r_codeOf σ c))]) (st' := []) dX7_symbol_4 rfl ?_
  refine ev_p (pc' := 6) (ls' := [some (.inr (.inr 0)), some (.inl c), some (.inl a), some (.inl (r_codeOf σ c))]) (st' := [.inl (r_codeOf σ c)]) dX7_symbol_5 rfl ?_
  refine ev_if_lt (tgt := 25) (pc' := 9) dX7_symbol_6 (by decide) rfl (fun h1 => ?_) (fun h1 => ?_)
  · refine ev_cst (v := 0) (pc' := 26) dX7_symbol_25 (by decide) rfl ?_
    refine ev_retZ dX7_symbol_26 rfl rfl ?_
    simp only [r_symbol, m_symbol, if_pos h1] at k
    exact k
  · refine ev_p (pc' := 10) (ls' := [some (.inr (.inr 0)), some (.inl c), some (.inl a), some (.inl (r_codeOf σ c))]) (st' := [.inl (r_codeOf σ c)]) dX7_symbol_9 rfl ?_
    refine ev_cst (v := 8) (pc' := 12) dX7_symbol_10 (by decide) rfl ?_
    refine ev_ic_ge (tgt := 25) (pc' := 15) dX7_symbol_12 (by decide) rfl (fun h2 => ?_) (fun h2 => ?_)
    · refine ev_cst (v := 0) (pc' := 26) dX7_symbol_25 (by decide) rfl ?_
      refine ev_retZ dX7_symbol_26 rfl rfl ?_
      simp only [r_symbol, m_symbol, if_neg h1, if_pos h2] at k
      exact k
    · refine ev_p (pc' := 16) (ls' := [some (.inr (.inr 0)), some (.inl c), some (.inl a), some (.inl (r_codeOf σ c))]) (st' := [.inl a]) dX7_symbol_15 rfl ?_
      refine ev_cst (v := (-1)) (pc' := 17) dX7_symbol_16 (by decide) rfl ?_
      refine ev_ic_lt (tgt := 25) (pc' := 20) dX7_symbol_17 (by decide) rfl (fun h3 => ?_) (fun h3 => ?_)
      · refine ev_cst (v := 0) (pc' := 26) dX7_symbol_25 (by decide) rfl ?_
        refine ev_retZ dX7_symbol_26 rfl rfl ?_
        simp only [r_symbol, m_symbol, if_neg h1, if_neg h2, if_pos h3] at k
        exact k
      · refine ev_p (pc' := 21) (ls' := [some (.inr (.inr 0)), some (.inl c), some (.inl a), some (.inl (r_codeOf σ c))]) (st' := [.inl a]) dX7_symbol_20 rfl ?_
        refine ev_cst (v := 2) (pc' := 22) dX7_symbol_21 (by decide) rfl ?_
        refine ev_ic_le (tgt := 27) (pc' := 25) dX7_symbol_22 (by decide) rfl (fun h4 => ?_) (fun h4 => ?_)
        · refine ev_p (pc' := 28) (ls' := [some (.inr (.inr 0)), some (.inl c), some (.inl a), some (.inl (r_codeOf σ c))]) (st' := [.inr (.inr 0)]) dX7_symbol_27 rfl ?_
          refine ev_getA (pc' := 31) (z := 1) dX7_symbol_28 rfl rfl rfl rfl ?_
          refine ev_p (pc' := 32) (ls' := [some (.inr (.inr 0)), some (.inl c), some (.inl a), some (.inl (r_codeOf σ c))]) (st' := [.inl (r_codeOf σ c), .inr (.inr 1)]) dX7_symbol_31 rfl ?_
          refine ev_p (pc' := 33) (ls' := [some (.inr (.inr 0)), some (.inl c), some (.inl a), some (.inl (r_codeOf σ c))]) (st' := [.inl a, .inl (r_codeOf σ c), .inr (.inr 1)]) dX7_symbol_32 rfl ?_
          refine ev_call (y := 12) (as := [.inr (.inr 1), .inl (r_codeOf σ c), .inl a]) (r := []) (M' := mX5_define) (pc' := 36) dX7_symbol_33 rfl rfl ⟨rfl, rfl⟩ rfl (x_define σ (r_codeOf σ c) a  (Q := fun v τ => v = none ∧ τ = m_define σ (r_codeOf σ c) a) ⟨rfl, rfl⟩) rfl (fun v τ hq => ?_)
          rw [hq.1, hq.2]
          change ev mX7_symbol 36 [some (.inr (.inr 0)), some (.inl c), some (.inl a), some (.inl (r_codeOf σ c))] [] (m_define σ (r_codeOf σ c) a) _
          refine ev_p (pc' := 37) (ls' := [some (.inr (.inr 0)), some (.inl c), some (.inl a), some (.inl (r_codeOf σ c))]) (st' := [.inr (.inr 0)]) dX7_symbol_36 rfl ?_
          refine ev_getA (pc' := 40) (z := 5) dX7_symbol_37 rfl rfl rfl rfl ?_
          refine ev_call (y := 13) (as := [.inr (.inr 5)]) (r := []) (M' := mX2_forgetAll) (pc' := 43) dX7_symbol_40 rfl rfl ⟨rfl, rfl⟩ rfl (x_forgetAll (m_define σ (r_codeOf σ c) a)   (Q := fun v τ => v = none ∧ τ = m_forgetAll (m_define σ (r_codeOf σ c) a) ) ⟨rfl, rfl⟩) rfl (fun v τ hq => ?_)
          rw [hq.1, hq.2]
          change ev mX7_symbol 43 [some (.inr (.inr 0)), some (.inl c), some (.inl a), some (.inl (r_codeOf σ c))] [] (m_forgetAll (m_define σ (r_codeOf σ c) a) ) _
          refine ev_p (pc' := 44) (ls' := [some (.inr (.inr 0)), some (.inl c), some (.inl a), some (.inl (r_codeOf σ c))]) (st' := [.inr (.inr 0)]) dX7_symbol_43 rfl ?_
          refine ev_cst (v := 0) (pc' := 45) dX7_symbol_44 (by decide) rfl ?_
          refine ev_putI (pc' := 48) dX7_symbol_45 rfl rfl rfl rfl rfl rfl ?_
          refine ev_cst (v := 1) (pc' := 49) dX7_symbol_48 (by decide) rfl ?_
          refine ev_retZ dX7_symbol_49 rfl rfl ?_
          simp only [r_symbol, m_symbol, if_neg h1, if_neg h2, if_neg h3, if_pos h4] at k
          exact k
        · refine ev_cst (v := 0) (pc' := 26) dX7_symbol_25 (by decide) rfl ?_
          refine ev_retZ dX7_symbol_26 rfl rfl ?_
          simp only [r_symbol, m_symbol, if_neg h1, if_neg h2, if_neg h3, if_neg h4] at k
          exact k
def r_symbolOf (σ : ab_M) (c : Int32) : Int32 := (if c < 97 then (if c < 80 then (-1) else (if 83 < c then (-1) else ((4 + c) - 80))) else (if 100 < c then (if c < 80 then (-1) else (if 83 < c then (-1) else ((4 + c) - 80))) else (c - 97)))
set_option maxRecDepth 20000 in
theorem x_symbolOf (σ : ab_M) (c : Int32) {Q : Option ab_V → ab_M → Prop} (k : Q (some (.inl (r_symbolOf σ c))) σ) : evm mX8_symbolOf [.inl c] σ Q := by
  show ev mX8_symbolOf 0 [some (.inl c)] [] σ Q
  refine ev_p (pc' := 1) (ls' := [some (.inl c)]) (st' := [.inl c]) dX8_symbolOf_0 rfl ?_
  refine ev_cst (v := 97) (pc' := 3) dX8_symbolOf_1 (by decide) rfl ?_
  refine ev_ic_lt (tgt := 19) (pc' := 6) dX8_symbolOf_3 (by decide) rfl (fun h1 => ?_) (fun h1 => ?_)
  · refine ev_p (pc' := 20) (ls' := [some (.inl c)]) (st' := [.inl c]) dX8_symbolOf_19 rfl ?_
    refine ev_cst (v := 80) (pc' := 22) dX8_symbolOf_20 (by decide) rfl ?_
    refine ev_ic_lt (tgt := 40) (pc' := 25) dX8_symbolOf_22 (by decide) rfl (fun h2 => ?_) (fun h2 => ?_)
    · refine ev_cst (v := (-1)) (pc' := 41) dX8_symbolOf_40 (by decide) rfl ?_
      refine ev_ret dX8_symbolOf_41 rfl ?_
      simp only [r_symbolOf, if_pos h1, if_pos h2] at k
      exact k
    · refine ev_p (pc' := 26) (ls' := [some (.inl c)]) (st' := [.inl c]) dX8_symbolOf_25 rfl ?_
      refine ev_cst (v := 83) (pc' := 28) dX8_symbolOf_26 (by decide) rfl ?_
      refine ev_ic_gt (tgt := 40) (pc' := 31) dX8_symbolOf_28 (by decide) rfl (fun h3 => ?_) (fun h3 => ?_)
      · refine ev_cst (v := (-1)) (pc' := 41) dX8_symbolOf_40 (by decide) rfl ?_
        refine ev_ret dX8_symbolOf_41 rfl ?_
        simp only [r_symbolOf, if_pos h1, if_neg h2, if_pos h3] at k
        exact k
      · refine ev_cst (v := 4) (pc' := 32) dX8_symbolOf_31 (by decide) rfl ?_
        refine ev_p (pc' := 33) (ls' := [some (.inl c)]) (st' := [.inl c, .inl 4]) dX8_symbolOf_32 rfl ?_
        refine ev_p (pc' := 34) (ls' := [some (.inl c)]) (st' := [.inl (4 + c)]) dX8_symbolOf_33 rfl ?_
        refine ev_cst (v := 80) (pc' := 36) dX8_symbolOf_34 (by decide) rfl ?_
        refine ev_p (pc' := 37) (ls' := [some (.inl c)]) (st' := [.inl ((4 + c) - 80)]) dX8_symbolOf_36 rfl ?_
        refine ev_go (tgt := 41) dX8_symbolOf_37 (by decide) ?_
        refine ev_ret dX8_symbolOf_41 rfl ?_
        simp only [r_symbolOf, if_pos h1, if_neg h2, if_neg h3] at k
        exact k
  · refine ev_p (pc' := 7) (ls' := [some (.inl c)]) (st' := [.inl c]) dX8_symbolOf_6 rfl ?_
    refine ev_cst (v := 100) (pc' := 9) dX8_symbolOf_7 (by decide) rfl ?_
    refine ev_ic_gt (tgt := 19) (pc' := 12) dX8_symbolOf_9 (by decide) rfl (fun h4 => ?_) (fun h4 => ?_)
    · refine ev_p (pc' := 20) (ls' := [some (.inl c)]) (st' := [.inl c]) dX8_symbolOf_19 rfl ?_
      refine ev_cst (v := 80) (pc' := 22) dX8_symbolOf_20 (by decide) rfl ?_
      refine ev_ic_lt (tgt := 40) (pc' := 25) dX8_symbolOf_22 (by decide) rfl (fun h5 => ?_) (fun h5 => ?_)
      · refine ev_cst (v := (-1)) (pc' := 41) dX8_symbolOf_40 (by decide) rfl ?_
        refine ev_ret dX8_symbolOf_41 rfl ?_
        simp only [r_symbolOf, if_neg h1, if_pos h4, if_pos h5] at k
        exact k
      · refine ev_p (pc' := 26) (ls' := [some (.inl c)]) (st' := [.inl c]) dX8_symbolOf_25 rfl ?_
        refine ev_cst (v := 83) (pc' := 28) dX8_symbolOf_26 (by decide) rfl ?_
        refine ev_ic_gt (tgt := 40) (pc' := 31) dX8_symbolOf_28 (by decide) rfl (fun h6 => ?_) (fun h6 => ?_)
        · refine ev_cst (v := (-1)) (pc' := 41) dX8_symbolOf_40 (by decide) rfl ?_
          refine ev_ret dX8_symbolOf_41 rfl ?_
          simp only [r_symbolOf, if_neg h1, if_pos h4, if_neg h5, if_pos h6] at k
          exact k
        · refine ev_cst (v := 4) (pc' := 32) dX8_symbolOf_31 (by decide) rfl ?_
          refine ev_p (pc' := 33) (ls' := [some (.inl c)]) (st' := [.inl c, .inl 4]) dX8_symbolOf_32 rfl ?_
          refine ev_p (pc' := 34) (ls' := [some (.inl c)]) (st' := [.inl (4 + c)]) dX8_symbolOf_33 rfl ?_
          refine ev_cst (v := 80) (pc' := 36) dX8_symbolOf_34 (by decide) rfl ?_
          refine ev_p (pc' := 37) (ls' := [some (.inl c)]) (st' := [.inl ((4 + c) - 80)]) dX8_symbolOf_36 rfl ?_
          refine ev_go (tgt := 41) dX8_symbolOf_37 (by decide) ?_
          refine ev_ret dX8_symbolOf_41 rfl ?_
          simp only [r_symbolOf, if_neg h1, if_pos h4, if_neg h5, if_neg h6] at k
          exact k
    · refine ev_p (pc' := 13) (ls' := [some (.inl c)]) (st' := [.inl c]) dX8_symbolOf_12 rfl ?_
      refine ev_cst (v := 97) (pc' := 15) dX8_symbolOf_13 (by decide) rfl ?_
      refine ev_p (pc' := 16) (ls' := [some (.inl c)]) (st' := [.inl (c - 97)]) dX8_symbolOf_15 rfl ?_
      refine ev_go (tgt := 41) dX8_symbolOf_16 (by decide) ?_
      refine ev_ret dX8_symbolOf_41 rfl ?_
      simp only [r_symbolOf, if_neg h1, if_neg h4] at k
      exact k
