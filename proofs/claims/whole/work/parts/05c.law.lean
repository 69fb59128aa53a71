def f_L_law_L18b (v3 : Int32) (m : ej_M) : Option ((Int32 × ej_M) ⊕ (Int32 × ej_M)) :=
  (oj_ln m 4000).bind fun w1 =>
  if (w1 - 6) < v3 then
    some (Sum.inr (1, m))
  else
    (oj_ld 0 m 4000 v3).bind fun w2 =>
    if (w2 &&& 63) = 0 then
      (oj_ld 0 m 4000 (v3 + 1)).bind fun w3 =>
      (f_X10_stone w3 m).bind fun q4 =>
      (oj_ld 0 q4.2 4000 (v3 + 1)).bind fun w5 =>
      (f_X11_stone w5 q4.2).bind fun q6 =>
      if q4.1 = q6.1 then
        some (Sum.inl ((v3 + 6), q6.2))
      else
        some (Sum.inr (0, q6.2))
    else
      if (w2 &&& 63) = 1 then
        (oj_ld 0 m 4000 (v3 + 1)).bind fun w7 =>
        (oj_ld 0 m 4000 (v3 + 2)).bind fun w8 =>
        (oj_ld 0 m 4000 (v3 + 3)).bind fun w9 =>
        (f_X10_stones w7 w8 w9 m).bind fun q10 =>
        (oj_ld 0 q10.2 4000 (v3 + 1)).bind fun w11 =>
        (oj_ld 0 q10.2 4000 (v3 + 2)).bind fun w12 =>
        (oj_ld 0 q10.2 4000 (v3 + 3)).bind fun w13 =>
        (f_X11_stones w11 w12 w13 q10.2).bind fun q14 =>
        if q10.1 = q14.1 then
          some (Sum.inl ((v3 + 6), q14.2))
        else
          some (Sum.inr (0, q14.2))
      else
        if (w2 &&& 63) = 2 then
          (oj_ld 0 m 4000 (v3 + 1)).bind fun w15 =>
          (oj_ld 0 m 4000 (v3 + 2)).bind fun w16 =>
          (oj_ld 0 m 4000 (v3 + 3)).bind fun w17 =>
          (f_X10_mend w15 w16 w17 m).bind fun q18 =>
          (oj_ld 0 q18.2 4000 (v3 + 1)).bind fun w19 =>
          (oj_ld 0 q18.2 4000 (v3 + 2)).bind fun w20 =>
          (oj_ld 0 q18.2 4000 (v3 + 3)).bind fun w21 =>
          (f_X11_mend w19 w20 w21 q18.2).bind fun q22 =>
          if q18.1 = q22.1 then
            some (Sum.inl ((v3 + 6), q22.2))
          else
            some (Sum.inr (0, q22.2))
        else
          if (w2 &&& 63) = 3 then
            (oj_ld 0 m 4000 (v3 + 1)).bind fun w23 =>
            (oj_ld 0 m 4000 (v3 + 2)).bind fun w24 =>
            (f_X10_of w23 w24 m).bind fun q25 =>
            (oj_ld 0 q25.2 4000 (v3 + 1)).bind fun w26 =>
            (oj_ld 0 q25.2 4000 (v3 + 2)).bind fun w27 =>
            (f_X11_of w26 w27 q25.2).bind fun q28 =>
            if q25.1 = q28.1 then
              some (Sum.inl ((v3 + 6), q28.2))
            else
              some (Sum.inr (0, q28.2))
          else
            if (w2 &&& 63) = 4 then
              (oj_ld 0 m 4000 (v3 + 1)).bind fun w29 =>
              (f_X10_feed w29 m).bind fun q30 =>
              (oj_ld 0 q30.2 4000 (v3 + 1)).bind fun w31 =>
              (f_X11_feed w31 q30.2).bind fun q32 =>
              if q30.1 = q32.1 then
                some (Sum.inl ((v3 + 6), q32.2))
              else
                some (Sum.inr (0, q32.2))
            else
              if (w2 &&& 63) = 5 then
                (f_X10_law m).bind fun q33 =>
                (f_X11_law q33.2).bind fun q34 =>
                if q33.1 = q34.1 then
                  some (Sum.inl ((v3 + 6), q34.2))
                else
                  some (Sum.inr (0, q34.2))
              else
                if (w2 &&& 63) = 6 then
                  (oj_ld 0 m 4000 (v3 + 1)).bind fun w35 =>
                  (oj_ld 0 m 4000 (v3 + 2)).bind fun w36 =>
                  (f_X10_set w35 w36 m).bind fun q37 =>
                  (oj_ld 0 q37.2 4000 (v3 + 1)).bind fun w38 =>
                  (oj_ld 0 q37.2 4000 (v3 + 2)).bind fun w39 =>
                  (f_X11_set w38 w39 q37.2).bind fun q40 =>
                  if q37.1 = q40.1 then
                    some (Sum.inl ((v3 + 6), q40.2))
                  else
                    some (Sum.inr (0, q40.2))
                else
                  if (w2 &&& 63) = 7 then
                    (oj_ld 0 m 4000 (v3 + 1)).bind fun w41 =>
                    (f_X10_take w41 m).bind fun q42 =>
                    (oj_ld 0 q42.2 4000 (v3 + 1)).bind fun w43 =>
                    (f_X11_take w43 q42.2).bind fun q44 =>
                    if q42.1 = q44.1 then
                      some (Sum.inl ((v3 + 6), q44.2))
                    else
                      some (Sum.inr (0, q44.2))
                  else
                    if (w2 &&& 63) = 8 then
                      (oj_ld 0 m 4000 (v3 + 1)).bind fun w45 =>
                      (f_X10_turn w45 m).bind fun q46 =>
                      (oj_ld 0 q46.2 4000 (v3 + 1)).bind fun w47 =>
                      (f_X11_turn w47 q46.2).bind fun q48 =>
                      if q46.1 = q48.1 then
                        some (Sum.inl ((v3 + 6), q48.2))
                      else
                        some (Sum.inr (0, q48.2))
                    else
                      if (w2 &&& 63) = 9 then
                        (f_X10_broken m).bind fun q49 =>
                        (f_X11_broken q49.2).bind fun q50 =>
                        if q49.1 = q50.1 then
                          some (Sum.inl ((v3 + 6), q50.2))
                        else
                          some (Sum.inr (0, q50.2))
                      else
                        if (w2 &&& 63) = 10 then
                          (f_X10_maySell m).bind fun q51 =>
                          (f_X11_maySell q51.2).bind fun q52 =>
                          if q51.1 = q52.1 then
                            some (Sum.inl ((v3 + 6), q52.2))
                          else
                            some (Sum.inr (0, q52.2))
                        else
                          if (w2 &&& 63) = 11 then
                            (oj_ld 0 m 4000 (v3 + 1)).bind fun w53 =>
                            (f_X10_ways w53 m).bind fun q54 =>
                            (oj_ld 0 q54.2 4000 (v3 + 1)).bind fun w55 =>
                            (f_X11_ways w55 q54.2).bind fun q56 =>
                            if q54.1 = q56.1 then
                              some (Sum.inl ((v3 + 6), q56.2))
                            else
                              some (Sum.inr (0, q56.2))
                          else
                            if (w2 &&& 63) = 12 then
                              (oj_ld 0 m 4000 (v3 + 1)).bind fun w57 =>
                              (oj_ld 0 m 4000 (v3 + 2)).bind fun w58 =>
                              (f_X10_rows w57 w58 m).bind fun q59 =>
                              (oj_ld 0 q59.2 4000 (v3 + 1)).bind fun w60 =>
                              (oj_ld 0 q59.2 4000 (v3 + 2)).bind fun w61 =>
                              (f_X11_rows w60 w61 q59.2).bind fun q62 =>
                              if q59.1 = q62.1 then
                                some (Sum.inl ((v3 + 6), q62.2))
                              else
                                some (Sum.inr (0, q62.2))
                            else
                              if (w2 &&& 63) = 13 then
                                (oj_ld 0 m 4000 (v3 + 1)).bind fun w63 =>
                                (f_X10_ounces w63 m).bind fun q64 =>
                                (oj_ld 0 q64.2 4000 (v3 + 1)).bind fun w65 =>
                                (f_X11_ounces w65 q64.2).bind fun q66 =>
                                if q64.1 = q66.1 then
                                  some (Sum.inl ((v3 + 6), q66.2))
                                else
                                  some (Sum.inr (0, q66.2))
                              else
                                if (w2 &&& 63) = 14 then
                                  (oj_ld 0 m 4000 (v3 + 1)).bind fun w67 =>
                                  (f_X10_makeUp w67 m).bind fun q68 =>
                                  (oj_ld 0 q68.2 4000 (v3 + 1)).bind fun w69 =>
                                  (f_X11_makeUp w69 q68.2).bind fun q70 =>
                                  if q68.1 = q70.1 then
                                    some (Sum.inl ((v3 + 6), q70.2))
                                  else
                                    some (Sum.inr (0, q70.2))
                                else
                                  if (w2 &&& 63) = 15 then
                                    (oj_ld 0 m 4000 (v3 + 1)).bind fun w71 =>
                                    (f_X10_ends w71 m).bind fun q72 =>
                                    (oj_ld 0 q72.2 4000 (v3 + 1)).bind fun w73 =>
                                    (f_X11_ends w73 q72.2).bind fun q74 =>
                                    if q72.1 = q74.1 then
                                      some (Sum.inl ((v3 + 6), q74.2))
                                    else
                                      some (Sum.inr (0, q74.2))
                                  else
                                    if (w2 &&& 63) = 16 then
                                      (oj_ld 0 m 4000 (v3 + 1)).bind fun w75 =>
                                      (f_X10_aside w75 m).bind fun q76 =>
                                      (oj_ld 0 q76.2 4000 (v3 + 1)).bind fun w77 =>
                                      (f_X11_aside w77 q76.2).bind fun q78 =>
                                      if q76.1 = q78.1 then
                                        some (Sum.inl ((v3 + 6), q78.2))
                                      else
                                        some (Sum.inr (0, q78.2))
                                    else
                                      if (w2 &&& 63) = 17 then
                                        (oj_ld 0 m 4000 (v3 + 1)).bind fun w79 =>
                                        (f_X10_soldOn w79 m).bind fun q80 =>
                                        (oj_ld 0 q80.2 4000 (v3 + 1)).bind fun w81 =>
                                        (f_X11_soldOn w81 q80.2).bind fun q82 =>
                                        if q80.1 = q82.1 then
                                          some (Sum.inl ((v3 + 6), q82.2))
                                        else
                                          some (Sum.inr (0, q82.2))
                                      else
                                        if (w2 &&& 63) = 18 then
                                          (oj_ld 0 m 4000 (v3 + 1)).bind fun w83 =>
                                          (oj_ld 0 m 4000 (v3 + 2)).bind fun w84 =>
                                          (f_X10_worth w83 w84 m).bind fun q85 =>
                                          (oj_ld 0 q85.2 4000 (v3 + 1)).bind fun w86 =>
                                          (oj_ld 0 q85.2 4000 (v3 + 2)).bind fun w87 =>
                                          (f_X11_worth w86 w87 q85.2).bind fun q88 =>
                                          if q85.1 = q88.1 then
                                            some (Sum.inl ((v3 + 6), q88.2))
                                          else
                                            some (Sum.inr (0, q88.2))
                                        else
                                          if (w2 &&& 63) = 19 then
                                            (oj_ld 0 m 4000 (v3 + 1)).bind fun w89 =>
                                            (f_X10_fewest w89 m).bind fun q90 =>
                                            (oj_ld 0 q90.2 4000 (v3 + 1)).bind fun w91 =>
                                            (f_X11_fewest w91 q90.2).bind fun q92 =>
                                            if q90.1 = q92.1 then
                                              some (Sum.inl ((v3 + 6), q92.2))
                                            else
                                              some (Sum.inr (0, q92.2))
                                          else
                                            if (w2 &&& 63) = 20 then
                                              (oj_ld 0 m 4000 (v3 + 1)).bind fun w93 =>
                                              (oj_ld 0 m 4000 (v3 + 2)).bind fun w94 =>
                                              (f_X10_book w93 w94 m).bind fun q95 =>
                                              (oj_ld 0 q95.2 4000 (v3 + 1)).bind fun w96 =>
                                              (oj_ld 0 q95.2 4000 (v3 + 2)).bind fun w97 =>
                                              (f_X11_book w96 w97 q95.2).bind fun q98 =>
                                              if q95.1 = q98.1 then
                                                some (Sum.inl ((v3 + 6), q98.2))
                                              else
                                                some (Sum.inr (0, q98.2))
                                            else
                                              if (w2 &&& 63) = 21 then
                                                (oj_ld 0 m 4000 (v3 + 1)).bind fun w99 =>
                                                (oj_ld 0 m 4000 (v3 + 2)).bind fun w100 =>
                                                (oj_ld 0 m 4000 (v3 + 3)).bind fun w101 =>
                                                (f_X10_mixed w99 w100 w101 m).bind fun q102 =>
                                                (oj_ld 0 q102.2 4000 (v3 + 1)).bind fun w103 =>
                                                (oj_ld 0 q102.2 4000 (v3 + 2)).bind fun w104 =>
                                                (oj_ld 0 q102.2 4000 (v3 + 3)).bind fun w105 =>
                                                (f_X11_mixed w103 w104 w105 q102.2).bind fun q106 =>
                                                if q102.1 = q106.1 then
                                                  some (Sum.inl ((v3 + 6), q106.2))
                                                else
                                                  some (Sum.inr (0, q106.2))
                                              else
                                                if (w2 &&& 63) = 22 then
                                                  (f_X10_image m).bind fun q107 =>
                                                  (f_X11_image q107.2).bind fun q108 =>
                                                  if q107.1 = q108.1 then
                                                    some (Sum.inl ((v3 + 6), q108.2))
                                                  else
                                                    some (Sum.inr (0, q108.2))
                                                else
                                                  if (w2 &&& 63) = 23 then
                                                    (f_X10_back m).bind fun q109 =>
                                                    (f_X11_back q109.2).bind fun q110 =>
                                                    if q109.1 = q110.1 then
                                                      some (Sum.inl ((v3 + 6), q110.2))
                                                    else
                                                      some (Sum.inr (0, q110.2))
                                                  else
                                                    if (w2 &&& 63) = 24 then
                                                      (f_X10_undo m).bind fun q111 =>
                                                      (f_X11_undo q111.2).bind fun q112 =>
                                                      if q111.1 = q112.1 then
                                                        some (Sum.inl ((v3 + 6), q112.2))
                                                      else
                                                        some (Sum.inr (0, q112.2))
                                                    else
                                                      if (w2 &&& 63) = 25 then
                                                        (f_X10_redo m).bind fun q113 =>
                                                        (f_X11_redo q113.2).bind fun q114 =>
                                                        if q113.1 = q114.1 then
                                                          some (Sum.inl ((v3 + 6), q114.2))
                                                        else
                                                          some (Sum.inr (0, q114.2))
                                                      else
                                                        if (w2 &&& 63) = 26 then
                                                          (oj_ld 0 m 4000 (v3 + 1)).bind fun w115 =>
                                                          (f_X10_body w115 m).bind fun q116 =>
                                                          (oj_ld 0 q116.2 4000 (v3 + 1)).bind fun w117 =>
                                                          (f_X11_body w117 q116.2).bind fun q118 =>
                                                          if q116.1 = q118.1 then
                                                            some (Sum.inl ((v3 + 6), q118.2))
                                                          else
                                                            some (Sum.inr (0, q118.2))
                                                        else
                                                          if (w2 &&& 63) = 27 then
                                                            (oj_ld 0 m 4000 (v3 + 1)).bind fun w119 =>
                                                            (oj_ld 0 m 4000 (v3 + 2)).bind fun w120 =>
                                                            (oj_ld 0 m 4000 (v3 + 3)).bind fun w121 =>
                                                            (f_X10_act w119 w120 w121 m).bind fun q122 =>
                                                            (oj_ld 0 q122.2 4000 (v3 + 1)).bind fun w123 =>
                                                            (oj_ld 0 q122.2 4000 (v3 + 2)).bind fun w124 =>
                                                            (oj_ld 0 q122.2 4000 (v3 + 3)).bind fun w125 =>
                                                            (f_X11_act w123 w124 w125 q122.2).bind fun q126 =>
                                                            if q122.1 = q126.1 then
                                                              some (Sum.inl ((v3 + 6), q126.2))
                                                            else
                                                              some (Sum.inr (0, q126.2))
                                                          else
                                                            if (w2 &&& 63) = 28 then
                                                              (oj_ld 0 m 4000 (v3 + 1)).bind fun w127 =>
                                                              (f_X10_trace w127 m).bind fun q128 =>
                                                              (oj_ld 0 q128.2 4000 (v3 + 1)).bind fun w129 =>
                                                              (f_X11_trace w129 q128.2).bind fun q130 =>
                                                              if q128.1 = q130.1 then
                                                                some (Sum.inl ((v3 + 6), q130.2))
                                                              else
                                                                some (Sum.inr (0, q130.2))
                                                            else
                                                              if (w2 &&& 63) = 29 then
                                                                (oj_ld 0 m 4000 (v3 + 1)).bind fun w131 =>
                                                                (oj_ld 0 m 4000 (v3 + 2)).bind fun w132 =>
                                                                (f_X10_keep w131 w132 m).bind fun q133 =>
                                                                (oj_ld 0 q133.2 4000 (v3 + 1)).bind fun w134 =>
                                                                (oj_ld 0 q133.2 4000 (v3 + 2)).bind fun w135 =>
                                                                (f_X11_keep w134 w135 q133.2).bind fun q136 =>
                                                                if q133.1 = q136.1 then
                                                                  some (Sum.inl ((v3 + 6), q136.2))
                                                                else
                                                                  some (Sum.inr (0, q136.2))
                                                              else
                                                                if (w2 &&& 63) = 30 then
                                                                  (oj_ld 0 m 4000 (v3 + 1)).bind fun w137 =>
                                                                  (oj_ld 0 m 4000 (v3 + 2)).bind fun w138 =>
                                                                  (oj_ld 0 m 4000 (v3 + 3)).bind fun w139 =>
                                                                  (f_X10_row w137 w138 w139 m).bind fun q140 =>
                                                                  (oj_ld 0 q140.2 4000 (v3 + 1)).bind fun w141 =>
                                                                  (oj_ld 0 q140.2 4000 (v3 + 2)).bind fun w142 =>
                                                                  (oj_ld 0 q140.2 4000 (v3 + 3)).bind fun w143 =>
                                                                  (f_X11_row w141 w142 w143 q140.2).bind fun q144 =>
                                                                  if q140.1 = q144.1 then
                                                                    some (Sum.inl ((v3 + 6), q144.2))
                                                                  else
                                                                    some (Sum.inr (0, q144.2))
                                                                else
                                                                  if (w2 &&& 63) = 31 then
                                                                    (oj_ld 0 m 4000 (v3 + 1)).bind fun w145 =>
                                                                    (oj_ld 0 m 4000 (v3 + 2)).bind fun w146 =>
                                                                    (oj_ld 0 m 4000 (v3 + 3)).bind fun w147 =>
                                                                    (oj_ld 0 m 4000 (v3 + 4)).bind fun w148 =>
                                                                    (f_X10_put w145 w146 (((Int32.toInt64 w147) <<< (Int32.toInt64 32 &&& 63)) ||| ((Int32.toInt64 w148) &&& (4294967295 : Int64))) m).bind fun q149 =>
                                                                    (oj_ld 0 q149.2 4000 (v3 + 1)).bind fun w150 =>
                                                                    (oj_ld 0 q149.2 4000 (v3 + 2)).bind fun w151 =>
                                                                    (oj_ld 0 q149.2 4000 (v3 + 3)).bind fun w152 =>
                                                                    (oj_ld 0 q149.2 4000 (v3 + 4)).bind fun w153 =>
                                                                    (f_X11_put w150 w151 (((Int32.toInt64 w152) <<< (Int32.toInt64 32 &&& 63)) ||| ((Int32.toInt64 w153) &&& (4294967295 : Int64))) q149.2).bind fun q154 =>
                                                                    if q149.1 = q154.1 then
                                                                      some (Sum.inl ((v3 + 6), q154.2))
                                                                    else
                                                                      some (Sum.inr (0, q154.2))
                                                                  else
                                                                    if (w2 &&& 63) = 32 then
                                                                      (oj_ld 0 m 4000 (v3 + 1)).bind fun w155 =>
                                                                      (oj_ld 0 m 4000 (v3 + 2)).bind fun w156 =>
                                                                      (f_X10_element w155 w156 m).bind fun q157 =>
                                                                      (oj_ld 0 q157.2 4000 (v3 + 1)).bind fun w158 =>
                                                                      (oj_ld 0 q157.2 4000 (v3 + 2)).bind fun w159 =>
                                                                      (f_X11_element w158 w159 q157.2).bind fun q160 =>
                                                                      if (lg_cmp q157.1 q160.1) = 0 then
                                                                        some (Sum.inl ((v3 + 6), q160.2))
                                                                      else
                                                                        some (Sum.inr (0, q160.2))
                                                                    else
                                                                      if (w2 &&& 63) = 33 then
                                                                        (oj_ld 0 m 4000 (v3 + 1)).bind fun w161 =>
                                                                        (oj_ld 0 m 4000 (v3 + 2)).bind fun w162 =>
                                                                        (oj_ld 0 m 4000 (v3 + 3)).bind fun w163 =>
                                                                        (oj_ld 0 m 4000 (v3 + 4)).bind fun w164 =>
                                                                        (oj_ld 0 m 4000 (v3 + 5)).bind fun w165 =>
                                                                        (f_X10_shift w161 w162 w163 w164 w165 m).bind fun q166 =>
                                                                        (oj_ld 0 q166.2 4000 (v3 + 1)).bind fun w167 =>
                                                                        (oj_ld 0 q166.2 4000 (v3 + 2)).bind fun w168 =>
                                                                        (oj_ld 0 q166.2 4000 (v3 + 3)).bind fun w169 =>
                                                                        (oj_ld 0 q166.2 4000 (v3 + 4)).bind fun w170 =>
                                                                        (oj_ld 0 q166.2 4000 (v3 + 5)).bind fun w171 =>
                                                                        (f_X11_shift w167 w168 w169 w170 w171 q166.2).bind fun q172 =>
                                                                        if q166.1 = q172.1 then
                                                                          some (Sum.inl ((v3 + 6), q172.2))
                                                                        else
                                                                          some (Sum.inr (0, q172.2))
                                                                      else
                                                                        if (w2 &&& 63) = 34 then
                                                                          (oj_ld 0 m 4000 (v3 + 1)).bind fun w173 =>
                                                                          (oj_ld 0 m 4000 (v3 + 2)).bind fun w174 =>
                                                                          (f_X10_taken w173 w174 m).bind fun q175 =>
                                                                          (oj_ld 0 q175.2 4000 (v3 + 1)).bind fun w176 =>
                                                                          (oj_ld 0 q175.2 4000 (v3 + 2)).bind fun w177 =>
                                                                          (f_X11_taken w176 w177 q175.2).bind fun q178 =>
                                                                          if q175.1 = q178.1 then
                                                                            some (Sum.inl ((v3 + 6), q178.2))
                                                                          else
                                                                            some (Sum.inr (0, q178.2))
                                                                        else
                                                                          if (w2 &&& 63) = 35 then
                                                                            (oj_ld 0 m 4000 (v3 + 1)).bind fun w179 =>
                                                                            (f_X10_count w179 m).bind fun q180 =>
                                                                            (oj_ld 0 q180.2 4000 (v3 + 1)).bind fun w181 =>
                                                                            (f_X11_count w181 q180.2).bind fun q182 =>
                                                                            if q180.1 = q182.1 then
                                                                              some (Sum.inl ((v3 + 6), q182.2))
                                                                            else
                                                                              some (Sum.inr (0, q182.2))
                                                                          else
                                                                            some (Sum.inl ((v3 + 6), m))
set_option maxHeartbeats 4000000 in
set_option maxRecDepth 100000 in
theorem b_L_law_L18b (e : Nat) (hd : 128 ≤ e) (v3 : Int32) (m : ej_M) {x : ((Int32 × ej_M) ⊕ (Int32 × ej_M))} {res : Option Value × ej_H} {K : ((Int32 × ej_M) ⊕ (Int32 × ej_M)) → Prop} (hf : f_L_law_L18b v3 m = some x) (hK : K x) (h1 : ∀ q : (Int32 × ej_M), K (Sum.inl q) → ej_Z cL_law 4 (some .boolean) RL "law" (e + 1) 18 [(0, .ref 4000), (1, .ref 0), (2, .ref 41), (3, .int q.1)] [] (ej_sh, q.2) res) (h0 : ∀ q : (Int32 × ej_M), K (Sum.inr q) → res = (some (Value.int q.1), (ej_sh, q.2))) : ej_Z cL_law 4 (some .boolean) RL "law" (e + 1) 18 [(0, .ref 4000), (1, .ref 0), (2, .ref 41), (3, .int v3)] [] (ej_sh, m) res := by
  unfold f_L_law_L18b at hf
  refine z_iload_n (pc := 18) (i := 3) (j := 3) dL_law_18 rfl rfl ?_
  refine z_aload_n (pc := 19) (i := 0) (j := 0) dL_law_19 rfl rfl ?_
  obtain ⟨w1, hw1, hf⟩ := Option.bind_eq_some_iff.mp hf
  refine z_oalen (pc := 20) dL_law_20 hw1 ?_
  refine z_bipush (pc := 21) dL_law_21 kb_6 ?_
  refine z_isub (pc := 23) dL_law_23 ?_
  refine z_icmp_gt (pc := 24) (tgt := 1227) dL_law_24 (by decide) (fun hc => ?_) (fun hc => ?_)
  · rw [if_pos hc] at hf
    refine z_iconst (pc := 1227) dL_law_1227 ki_1 ?_
    obtain rfl := Option.some.inj hf
    rw [h0 _ hK]
    exact z_iret dL_law_1228 rfl rfl
  · rw [if_neg hc] at hf
    refine z_aload_n (pc := 27) (i := 0) (j := 0) dL_law_27 rfl rfl ?_
    refine z_iload_n (pc := 28) (i := 3) (j := 3) dL_law_28 rfl rfl ?_
    obtain ⟨w2, hw2, hf⟩ := Option.bind_eq_some_iff.mp hf
    refine z_oiald (pc := 29) dL_law_29 hw2 ?_
    refine z_bipush (pc := 30) dL_law_30 kb_63 ?_
    refine z_iand (pc := 32) dL_law_32 ?_
    by_cases hs0 : (w2 &&& 63) = 0
    · rw [if_pos hs0] at hf
      refine z_tabIn (pc := 33) (off := 159) (tgt := 192) dL_law_33 (by rw [hs0]; decide) (by rw [hs0]; decide) (by rw [hs0]; rfl) (by decide) ?_
      refine z_aload_n (pc := 192) (i := 1) (j := 1) dL_law_192 rfl rfl ?_
      refine z_aload_n (pc := 193) (i := 0) (j := 0) dL_law_193 rfl rfl ?_
      refine z_iload_n (pc := 194) (i := 3) (j := 3) dL_law_194 rfl rfl ?_
      refine z_iconst (pc := 195) dL_law_195 ki_1 ?_
      refine z_iadd (pc := 196) dL_law_196 ?_
      obtain ⟨w3, hw3, hf⟩ := Option.bind_eq_some_iff.mp hf
      refine z_oiald (pc := 197) dL_law_197 hw3 ?_
      obtain ⟨q4, hq4, hf⟩ := Option.bind_eq_some_iff.mp hf
      refine z_oVi (pc := 198) (as := [.int w3]) (rest := []) dL_law_198 lm_RL_13 mf_X10_stone mi_X10_stone mv_X10_stone rc_0 rfl rfl (Nat.le_of_ble_eq_true rfl) (c_X10_stone e (by omega) w3 m hq4) ?_
      refine z_aload_n (pc := 201) (i := 2) (j := 2) dL_law_201 rfl rfl ?_
      refine z_aload_n (pc := 202) (i := 0) (j := 0) dL_law_202 rfl rfl ?_
      refine z_iload_n (pc := 203) (i := 3) (j := 3) dL_law_203 rfl rfl ?_
      refine z_iconst (pc := 204) dL_law_204 ki_1 ?_
      refine z_iadd (pc := 205) dL_law_205 ?_
      obtain ⟨w5, hw5, hf⟩ := Option.bind_eq_some_iff.mp hf
      refine z_oiald (pc := 206) dL_law_206 hw5 ?_
      obtain ⟨q6, hq6, hf⟩ := Option.bind_eq_some_iff.mp hf
      refine z_oVi (pc := 207) (as := [.int w5]) (rest := [.int q4.1]) dL_law_207 lm_RL_17 mf_X11_stone mi_X11_stone mv_X11_stone rc_41 rfl rfl (Nat.le_of_ble_eq_true rfl) (c_X11_stone e (by omega) w5 q4.2 hq6) ?_
      refine z_icmp_eq (pc := 210) (tgt := 1221) dL_law_210 (by decide) (fun hc => ?_) (fun hc => ?_)
      · rw [if_pos hc] at hf
        refine z_iinc (pc := 1221) (j := 3) (ls' := [(3, .int (v3 + 6)), (0, .ref 4000), (1, .ref 0), (2, .ref 41)]) dL_law_1221 rfl ki_6 (Nat.le_of_ble_eq_true rfl) rfl ?_
        refine z_goto (pc := 1224) (tgt := 18) dL_law_1224 (by decide) ?_
        obtain rfl := Option.some.inj hf
        exact z_pick (ls' := [(0, .ref 4000), (1, .ref 0), (2, .ref 41), (3, .int (v3 + 6))]) [1, 2, 3, 0] rfl (h1 ((v3 + 6), q6.2) hK)
      · rw [if_neg hc] at hf
        refine z_iconst (pc := 213) dL_law_213 ki_0 ?_
        obtain rfl := Option.some.inj hf
        rw [h0 _ hK]
        exact z_iret dL_law_214 rfl rfl
    · rw [if_neg hs0] at hf
      by_cases hs1 : (w2 &&& 63) = 1
      · rw [if_pos hs1] at hf
        refine z_tabIn (pc := 33) (off := 182) (tgt := 215) dL_law_33 (by rw [hs1]; decide) (by rw [hs1]; decide) (by rw [hs1]; rfl) (by decide) ?_
        refine z_aload_n (pc := 215) (i := 1) (j := 1) dL_law_215 rfl rfl ?_
        refine z_aload_n (pc := 216) (i := 0) (j := 0) dL_law_216 rfl rfl ?_
        refine z_iload_n (pc := 217) (i := 3) (j := 3) dL_law_217 rfl rfl ?_
        refine z_iconst (pc := 218) dL_law_218 ki_1 ?_
        refine z_iadd (pc := 219) dL_law_219 ?_
        obtain ⟨w7, hw7, hf⟩ := Option.bind_eq_some_iff.mp hf
        refine z_oiald (pc := 220) dL_law_220 hw7 ?_
        refine z_aload_n (pc := 221) (i := 0) (j := 0) dL_law_221 rfl rfl ?_
        refine z_iload_n (pc := 222) (i := 3) (j := 3) dL_law_222 rfl rfl ?_
        refine z_iconst (pc := 223) dL_law_223 ki_2 ?_
        refine z_iadd (pc := 224) dL_law_224 ?_
        obtain ⟨w8, hw8, hf⟩ := Option.bind_eq_some_iff.mp hf
        refine z_oiald (pc := 225) dL_law_225 hw8 ?_
        refine z_aload_n (pc := 226) (i := 0) (j := 0) dL_law_226 rfl rfl ?_
        refine z_iload_n (pc := 227) (i := 3) (j := 3) dL_law_227 rfl rfl ?_
        refine z_iconst (pc := 228) dL_law_228 ki_3 ?_
        refine z_iadd (pc := 229) dL_law_229 ?_
        obtain ⟨w9, hw9, hf⟩ := Option.bind_eq_some_iff.mp hf
        refine z_oiald (pc := 230) dL_law_230 hw9 ?_
        obtain ⟨q10, hq10, hf⟩ := Option.bind_eq_some_iff.mp hf
        refine z_oVi (pc := 231) (as := [.int w7, .int w8, .int w9]) (rest := []) dL_law_231 lm_RL_18 mf_X10_stones mi_X10_stones mv_X10_stones rc_0 rfl rfl (Nat.le_of_ble_eq_true rfl) (c_X10_stones e (by omega) w7 w8 w9 m hq10) ?_
        refine z_aload_n (pc := 234) (i := 2) (j := 2) dL_law_234 rfl rfl ?_
        refine z_aload_n (pc := 235) (i := 0) (j := 0) dL_law_235 rfl rfl ?_
        refine z_iload_n (pc := 236) (i := 3) (j := 3) dL_law_236 rfl rfl ?_
        refine z_iconst (pc := 237) dL_law_237 ki_1 ?_
        refine z_iadd (pc := 238) dL_law_238 ?_
        obtain ⟨w11, hw11, hf⟩ := Option.bind_eq_some_iff.mp hf
        refine z_oiald (pc := 239) dL_law_239 hw11 ?_
        refine z_aload_n (pc := 240) (i := 0) (j := 0) dL_law_240 rfl rfl ?_
        refine z_iload_n (pc := 241) (i := 3) (j := 3) dL_law_241 rfl rfl ?_
        refine z_iconst (pc := 242) dL_law_242 ki_2 ?_
        refine z_iadd (pc := 243) dL_law_243 ?_
        obtain ⟨w12, hw12, hf⟩ := Option.bind_eq_some_iff.mp hf
        refine z_oiald (pc := 244) dL_law_244 hw12 ?_
        refine z_aload_n (pc := 245) (i := 0) (j := 0) dL_law_245 rfl rfl ?_
        refine z_iload_n (pc := 246) (i := 3) (j := 3) dL_law_246 rfl rfl ?_
        refine z_iconst (pc := 247) dL_law_247 ki_3 ?_
        refine z_iadd (pc := 248) dL_law_248 ?_
        obtain ⟨w13, hw13, hf⟩ := Option.bind_eq_some_iff.mp hf
        refine z_oiald (pc := 249) dL_law_249 hw13 ?_
        obtain ⟨q14, hq14, hf⟩ := Option.bind_eq_some_iff.mp hf
        refine z_oVi (pc := 250) (as := [.int w11, .int w12, .int w13]) (rest := [.int q10.1]) dL_law_250 lm_RL_22 mf_X11_stones mi_X11_stones mv_X11_stones rc_41 rfl rfl (Nat.le_of_ble_eq_true rfl) (c_X11_stones e (by omega) w11 w12 w13 q10.2 hq14) ?_
        refine z_icmp_eq (pc := 253) (tgt := 1221) dL_law_253 (by decide) (fun hc => ?_) (fun hc => ?_)
        · rw [if_pos hc] at hf
          refine z_iinc (pc := 1221) (j := 3) (ls' := [(3, .int (v3 + 6)), (0, .ref 4000), (1, .ref 0), (2, .ref 41)]) dL_law_1221 rfl ki_6 (Nat.le_of_ble_eq_true rfl) rfl ?_
          refine z_goto (pc := 1224) (tgt := 18) dL_law_1224 (by decide) ?_
          obtain rfl := Option.some.inj hf
          exact z_pick (ls' := [(0, .ref 4000), (1, .ref 0), (2, .ref 41), (3, .int (v3 + 6))]) [1, 2, 3, 0] rfl (h1 ((v3 + 6), q14.2) hK)
        · rw [if_neg hc] at hf
          refine z_iconst (pc := 256) dL_law_256 ki_0 ?_
          obtain rfl := Option.some.inj hf
          rw [h0 _ hK]
          exact z_iret dL_law_257 rfl rfl
      · rw [if_neg hs1] at hf
        by_cases hs2 : (w2 &&& 63) = 2
        · rw [if_pos hs2] at hf
          refine z_tabIn (pc := 33) (off := 225) (tgt := 258) dL_law_33 (by rw [hs2]; decide) (by rw [hs2]; decide) (by rw [hs2]; rfl) (by decide) ?_
          refine z_aload_n (pc := 258) (i := 1) (j := 1) dL_law_258 rfl rfl ?_
          refine z_aload_n (pc := 259) (i := 0) (j := 0) dL_law_259 rfl rfl ?_
          refine z_iload_n (pc := 260) (i := 3) (j := 3) dL_law_260 rfl rfl ?_
          refine z_iconst (pc := 261) dL_law_261 ki_1 ?_
          refine z_iadd (pc := 262) dL_law_262 ?_
          obtain ⟨w15, hw15, hf⟩ := Option.bind_eq_some_iff.mp hf
          refine z_oiald (pc := 263) dL_law_263 hw15 ?_
          refine z_aload_n (pc := 264) (i := 0) (j := 0) dL_law_264 rfl rfl ?_
          refine z_iload_n (pc := 265) (i := 3) (j := 3) dL_law_265 rfl rfl ?_
          refine z_iconst (pc := 266) dL_law_266 ki_2 ?_
          refine z_iadd (pc := 267) dL_law_267 ?_
          obtain ⟨w16, hw16, hf⟩ := Option.bind_eq_some_iff.mp hf
          refine z_oiald (pc := 268) dL_law_268 hw16 ?_
          refine z_aload_n (pc := 269) (i := 0) (j := 0) dL_law_269 rfl rfl ?_
          refine z_iload_n (pc := 270) (i := 3) (j := 3) dL_law_270 rfl rfl ?_
          refine z_iconst (pc := 271) dL_law_271 ki_3 ?_
          refine z_iadd (pc := 272) dL_law_272 ?_
          obtain ⟨w17, hw17, hf⟩ := Option.bind_eq_some_iff.mp hf
          refine z_oiald (pc := 273) dL_law_273 hw17 ?_
          obtain ⟨q18, hq18, hf⟩ := Option.bind_eq_some_iff.mp hf
          refine z_oVi (pc := 274) (as := [.int w15, .int w16, .int w17]) (rest := []) dL_law_274 lm_RL_23 mf_X10_mend mi_X10_mend mv_X10_mend rc_0 rfl rfl (Nat.le_of_ble_eq_true rfl) (c_X10_mend e (by omega) w15 w16 w17 m hq18) ?_
          refine z_aload_n (pc := 277) (i := 2) (j := 2) dL_law_277 rfl rfl ?_
          refine z_aload_n (pc := 278) (i := 0) (j := 0) dL_law_278 rfl rfl ?_
          refine z_iload_n (pc := 279) (i := 3) (j := 3) dL_law_279 rfl rfl ?_
          refine z_iconst (pc := 280) dL_law_280 ki_1 ?_
          refine z_iadd (pc := 281) dL_law_281 ?_
          obtain ⟨w19, hw19, hf⟩ := Option.bind_eq_some_iff.mp hf
          refine z_oiald (pc := 282) dL_law_282 hw19 ?_
          refine z_aload_n (pc := 283) (i := 0) (j := 0) dL_law_283 rfl rfl ?_
          refine z_iload_n (pc := 284) (i := 3) (j := 3) dL_law_284 rfl rfl ?_
          refine z_iconst (pc := 285) dL_law_285 ki_2 ?_
          refine z_iadd (pc := 286) dL_law_286 ?_
          obtain ⟨w20, hw20, hf⟩ := Option.bind_eq_some_iff.mp hf
          refine z_oiald (pc := 287) dL_law_287 hw20 ?_
          refine z_aload_n (pc := 288) (i := 0) (j := 0) dL_law_288 rfl rfl ?_
          refine z_iload_n (pc := 289) (i := 3) (j := 3) dL_law_289 rfl rfl ?_
          refine z_iconst (pc := 290) dL_law_290 ki_3 ?_
          refine z_iadd (pc := 291) dL_law_291 ?_
          obtain ⟨w21, hw21, hf⟩ := Option.bind_eq_some_iff.mp hf
          refine z_oiald (pc := 292) dL_law_292 hw21 ?_
          obtain ⟨q22, hq22, hf⟩ := Option.bind_eq_some_iff.mp hf
          refine z_oVi (pc := 293) (as := [.int w19, .int w20, .int w21]) (rest := [.int q18.1]) dL_law_293 lm_RL_26 mf_X11_mend mi_X11_mend mv_X11_mend rc_41 rfl rfl (Nat.le_of_ble_eq_true rfl) (c_X11_mend e (by omega) w19 w20 w21 q18.2 hq22) ?_
          refine z_icmp_eq (pc := 296) (tgt := 1221) dL_law_296 (by decide) (fun hc => ?_) (fun hc => ?_)
          · rw [if_pos hc] at hf
            refine z_iinc (pc := 1221) (j := 3) (ls' := [(3, .int (v3 + 6)), (0, .ref 4000), (1, .ref 0), (2, .ref 41)]) dL_law_1221 rfl ki_6 (Nat.le_of_ble_eq_true rfl) rfl ?_
            refine z_goto (pc := 1224) (tgt := 18) dL_law_1224 (by decide) ?_
            obtain rfl := Option.some.inj hf
            exact z_pick (ls' := [(0, .ref 4000), (1, .ref 0), (2, .ref 41), (3, .int (v3 + 6))]) [1, 2, 3, 0] rfl (h1 ((v3 + 6), q22.2) hK)
          · rw [if_neg hc] at hf
            refine z_iconst (pc := 299) dL_law_299 ki_0 ?_
            obtain rfl := Option.some.inj hf
            rw [h0 _ hK]
            exact z_iret dL_law_300 rfl rfl
        · rw [if_neg hs2] at hf
          by_cases hs3 : (w2 &&& 63) = 3
          · rw [if_pos hs3] at hf
            refine z_tabIn (pc := 33) (off := 268) (tgt := 301) dL_law_33 (by rw [hs3]; decide) (by rw [hs3]; decide) (by rw [hs3]; rfl) (by decide) ?_
            refine z_aload_n (pc := 301) (i := 1) (j := 1) dL_law_301 rfl rfl ?_
            refine z_aload_n (pc := 302) (i := 0) (j := 0) dL_law_302 rfl rfl ?_
            refine z_iload_n (pc := 303) (i := 3) (j := 3) dL_law_303 rfl rfl ?_
            refine z_iconst (pc := 304) dL_law_304 ki_1 ?_
            refine z_iadd (pc := 305) dL_law_305 ?_
            obtain ⟨w23, hw23, hf⟩ := Option.bind_eq_some_iff.mp hf
            refine z_oiald (pc := 306) dL_law_306 hw23 ?_
            refine z_aload_n (pc := 307) (i := 0) (j := 0) dL_law_307 rfl rfl ?_
            refine z_iload_n (pc := 308) (i := 3) (j := 3) dL_law_308 rfl rfl ?_
            refine z_iconst (pc := 309) dL_law_309 ki_2 ?_
            refine z_iadd (pc := 310) dL_law_310 ?_
            obtain ⟨w24, hw24, hf⟩ := Option.bind_eq_some_iff.mp hf
            refine z_oiald (pc := 311) dL_law_311 hw24 ?_
            obtain ⟨q25, hq25, hf⟩ := Option.bind_eq_some_iff.mp hf
            refine z_oVi (pc := 312) (as := [.int w23, .int w24]) (rest := []) dL_law_312 lm_RL_27 mf_X10_of mi_X10_of mv_X10_of rc_0 rfl rfl (Nat.le_of_ble_eq_true rfl) (c_X10_of e (by omega) w23 w24 m hq25) ?_
            refine z_aload_n (pc := 315) (i := 2) (j := 2) dL_law_315 rfl rfl ?_
            refine z_aload_n (pc := 316) (i := 0) (j := 0) dL_law_316 rfl rfl ?_
            refine z_iload_n (pc := 317) (i := 3) (j := 3) dL_law_317 rfl rfl ?_
            refine z_iconst (pc := 318) dL_law_318 ki_1 ?_
            refine z_iadd (pc := 319) dL_law_319 ?_
            obtain ⟨w26, hw26, hf⟩ := Option.bind_eq_some_iff.mp hf
            refine z_oiald (pc := 320) dL_law_320 hw26 ?_
            refine z_aload_n (pc := 321) (i := 0) (j := 0) dL_law_321 rfl rfl ?_
            refine z_iload_n (pc := 322) (i := 3) (j := 3) dL_law_322 rfl rfl ?_
            refine z_iconst (pc := 323) dL_law_323 ki_2 ?_
            refine z_iadd (pc := 324) dL_law_324 ?_
            obtain ⟨w27, hw27, hf⟩ := Option.bind_eq_some_iff.mp hf
            refine z_oiald (pc := 325) dL_law_325 hw27 ?_
            obtain ⟨q28, hq28, hf⟩ := Option.bind_eq_some_iff.mp hf
            refine z_oVi (pc := 326) (as := [.int w26, .int w27]) (rest := [.int q25.1]) dL_law_326 lm_RL_31 mf_X11_of mi_X11_of mv_X11_of rc_41 rfl rfl (Nat.le_of_ble_eq_true rfl) (c_X11_of e (by omega) w26 w27 q25.2 hq28) ?_
            refine z_icmp_eq (pc := 329) (tgt := 1221) dL_law_329 (by decide) (fun hc => ?_) (fun hc => ?_)
            · rw [if_pos hc] at hf
              refine z_iinc (pc := 1221) (j := 3) (ls' := [(3, .int (v3 + 6)), (0, .ref 4000), (1, .ref 0), (2, .ref 41)]) dL_law_1221 rfl ki_6 (Nat.le_of_ble_eq_true rfl) rfl ?_
              refine z_goto (pc := 1224) (tgt := 18) dL_law_1224 (by decide) ?_
              obtain rfl := Option.some.inj hf
              exact z_pick (ls' := [(0, .ref 4000), (1, .ref 0), (2, .ref 41), (3, .int (v3 + 6))]) [1, 2, 3, 0] rfl (h1 ((v3 + 6), q28.2) hK)
            · rw [if_neg hc] at hf
              refine z_iconst (pc := 332) dL_law_332 ki_0 ?_
              obtain rfl := Option.some.inj hf
              rw [h0 _ hK]
              exact z_iret dL_law_333 rfl rfl
          · rw [if_neg hs3] at hf
            by_cases hs4 : (w2 &&& 63) = 4
            · rw [if_pos hs4] at hf
              refine z_tabIn (pc := 33) (off := 301) (tgt := 334) dL_law_33 (by rw [hs4]; decide) (by rw [hs4]; decide) (by rw [hs4]; rfl) (by decide) ?_
              refine z_aload_n (pc := 334) (i := 1) (j := 1) dL_law_334 rfl rfl ?_
              refine z_aload_n (pc := 335) (i := 0) (j := 0) dL_law_335 rfl rfl ?_
              refine z_iload_n (pc := 336) (i := 3) (j := 3) dL_law_336 rfl rfl ?_
              refine z_iconst (pc := 337) dL_law_337 ki_1 ?_
              refine z_iadd (pc := 338) dL_law_338 ?_
              obtain ⟨w29, hw29, hf⟩ := Option.bind_eq_some_iff.mp hf
              refine z_oiald (pc := 339) dL_law_339 hw29 ?_
              obtain ⟨q30, hq30, hf⟩ := Option.bind_eq_some_iff.mp hf
              refine z_oVi (pc := 340) (as := [.int w29]) (rest := []) dL_law_340 lm_RL_32 mf_X10_feed mi_X10_feed mv_X10_feed rc_0 rfl rfl (Nat.le_of_ble_eq_true rfl) (c_X10_feed e (by omega) w29 m hq30) ?_
              refine z_aload_n (pc := 343) (i := 2) (j := 2) dL_law_343 rfl rfl ?_
              refine z_aload_n (pc := 344) (i := 0) (j := 0) dL_law_344 rfl rfl ?_
              refine z_iload_n (pc := 345) (i := 3) (j := 3) dL_law_345 rfl rfl ?_
              refine z_iconst (pc := 346) dL_law_346 ki_1 ?_
              refine z_iadd (pc := 347) dL_law_347 ?_
              obtain ⟨w31, hw31, hf⟩ := Option.bind_eq_some_iff.mp hf
              refine z_oiald (pc := 348) dL_law_348 hw31 ?_
              obtain ⟨q32, hq32, hf⟩ := Option.bind_eq_some_iff.mp hf
              refine z_oVi (pc := 349) (as := [.int w31]) (rest := [.int q30.1]) dL_law_349 lm_RL_35 mf_X11_feed mi_X11_feed mv_X11_feed rc_41 rfl rfl (Nat.le_of_ble_eq_true rfl) (c_X11_feed e (by omega) w31 q30.2 hq32) ?_
              refine z_icmp_eq (pc := 352) (tgt := 1221) dL_law_352 (by decide) (fun hc => ?_) (fun hc => ?_)
              · rw [if_pos hc] at hf
                refine z_iinc (pc := 1221) (j := 3) (ls' := [(3, .int (v3 + 6)), (0, .ref 4000), (1, .ref 0), (2, .ref 41)]) dL_law_1221 rfl ki_6 (Nat.le_of_ble_eq_true rfl) rfl ?_
                refine z_goto (pc := 1224) (tgt := 18) dL_law_1224 (by decide) ?_
                obtain rfl := Option.some.inj hf
                exact z_pick (ls' := [(0, .ref 4000), (1, .ref 0), (2, .ref 41), (3, .int (v3 + 6))]) [1, 2, 3, 0] rfl (h1 ((v3 + 6), q32.2) hK)
              · rw [if_neg hc] at hf
                refine z_iconst (pc := 355) dL_law_355 ki_0 ?_
                obtain rfl := Option.some.inj hf
                rw [h0 _ hK]
                exact z_iret dL_law_356 rfl rfl
            · rw [if_neg hs4] at hf
              by_cases hs5 : (w2 &&& 63) = 5
              · rw [if_pos hs5] at hf
                refine z_tabIn (pc := 33) (off := 324) (tgt := 357) dL_law_33 (by rw [hs5]; decide) (by rw [hs5]; decide) (by rw [hs5]; rfl) (by decide) ?_
                refine z_aload_n (pc := 357) (i := 1) (j := 1) dL_law_357 rfl rfl ?_
                obtain ⟨q33, hq33, hf⟩ := Option.bind_eq_some_iff.mp hf
                refine z_oVi (pc := 358) (as := []) (rest := []) dL_law_358 lm_RL_36 mf_X10_law mi_X10_law mv_X10_law rc_0 rfl rfl (Nat.le_of_ble_eq_true rfl) (c_X10_law e (by omega) m hq33) ?_
                refine z_aload_n (pc := 361) (i := 2) (j := 2) dL_law_361 rfl rfl ?_
                obtain ⟨q34, hq34, hf⟩ := Option.bind_eq_some_iff.mp hf
                refine z_oVi (pc := 362) (as := []) (rest := [.int q33.1]) dL_law_362 lm_RL_40 mf_X11_law mi_X11_law mv_X11_law rc_41 rfl rfl (Nat.le_of_ble_eq_true rfl) (c_X11_law e (by omega) q33.2 hq34) ?_
                refine z_icmp_eq (pc := 365) (tgt := 1221) dL_law_365 (by decide) (fun hc => ?_) (fun hc => ?_)
                · rw [if_pos hc] at hf
                  refine z_iinc (pc := 1221) (j := 3) (ls' := [(3, .int (v3 + 6)), (0, .ref 4000), (1, .ref 0), (2, .ref 41)]) dL_law_1221 rfl ki_6 (Nat.le_of_ble_eq_true rfl) rfl ?_
                  refine z_goto (pc := 1224) (tgt := 18) dL_law_1224 (by decide) ?_
                  obtain rfl := Option.some.inj hf
                  exact z_pick (ls' := [(0, .ref 4000), (1, .ref 0), (2, .ref 41), (3, .int (v3 + 6))]) [1, 2, 3, 0] rfl (h1 ((v3 + 6), q34.2) hK)
                · rw [if_neg hc] at hf
                  refine z_iconst (pc := 368) dL_law_368 ki_0 ?_
                  obtain rfl := Option.some.inj hf
                  rw [h0 _ hK]
                  exact z_iret dL_law_369 rfl rfl
              · rw [if_neg hs5] at hf
                by_cases hs6 : (w2 &&& 63) = 6
                · rw [if_pos hs6] at hf
                  refine z_tabIn (pc := 33) (off := 337) (tgt := 370) dL_law_33 (by rw [hs6]; decide) (by rw [hs6]; decide) (by rw [hs6]; rfl) (by decide) ?_
                  refine z_aload_n (pc := 370) (i := 1) (j := 1) dL_law_370 rfl rfl ?_
                  refine z_aload_n (pc := 371) (i := 0) (j := 0) dL_law_371 rfl rfl ?_
                  refine z_iload_n (pc := 372) (i := 3) (j := 3) dL_law_372 rfl rfl ?_
                  refine z_iconst (pc := 373) dL_law_373 ki_1 ?_
                  refine z_iadd (pc := 374) dL_law_374 ?_
                  obtain ⟨w35, hw35, hf⟩ := Option.bind_eq_some_iff.mp hf
                  refine z_oiald (pc := 375) dL_law_375 hw35 ?_
                  refine z_aload_n (pc := 376) (i := 0) (j := 0) dL_law_376 rfl rfl ?_
                  refine z_iload_n (pc := 377) (i := 3) (j := 3) dL_law_377 rfl rfl ?_
                  refine z_iconst (pc := 378) dL_law_378 ki_2 ?_
                  refine z_iadd (pc := 379) dL_law_379 ?_
                  obtain ⟨w36, hw36, hf⟩ := Option.bind_eq_some_iff.mp hf
                  refine z_oiald (pc := 380) dL_law_380 hw36 ?_
                  obtain ⟨q37, hq37, hf⟩ := Option.bind_eq_some_iff.mp hf
                  refine z_oVi (pc := 381) (as := [.int w35, .int w36]) (rest := []) dL_law_381 lm_RL_41 mf_X10_set mi_X10_set mv_X10_set rc_0 rfl rfl (Nat.le_of_ble_eq_true rfl) (c_X10_set e (by omega) w35 w36 m hq37) ?_
                  refine z_aload_n (pc := 384) (i := 2) (j := 2) dL_law_384 rfl rfl ?_
                  refine z_aload_n (pc := 385) (i := 0) (j := 0) dL_law_385 rfl rfl ?_
                  refine z_iload_n (pc := 386) (i := 3) (j := 3) dL_law_386 rfl rfl ?_
                  refine z_iconst (pc := 387) dL_law_387 ki_1 ?_
                  refine z_iadd (pc := 388) dL_law_388 ?_
                  obtain ⟨w38, hw38, hf⟩ := Option.bind_eq_some_iff.mp hf
                  refine z_oiald (pc := 389) dL_law_389 hw38 ?_
                  refine z_aload_n (pc := 390) (i := 0) (j := 0) dL_law_390 rfl rfl ?_
                  refine z_iload_n (pc := 391) (i := 3) (j := 3) dL_law_391 rfl rfl ?_
                  refine z_iconst (pc := 392) dL_law_392 ki_2 ?_
                  refine z_iadd (pc := 393) dL_law_393 ?_
                  obtain ⟨w39, hw39, hf⟩ := Option.bind_eq_some_iff.mp hf
                  refine z_oiald (pc := 394) dL_law_394 hw39 ?_
                  obtain ⟨q40, hq40, hf⟩ := Option.bind_eq_some_iff.mp hf
                  refine z_oVi (pc := 395) (as := [.int w38, .int w39]) (rest := [.int q37.1]) dL_law_395 lm_RL_44 mf_X11_set mi_X11_set mv_X11_set rc_41 rfl rfl (Nat.le_of_ble_eq_true rfl) (c_X11_set e (by omega) w38 w39 q37.2 hq40) ?_
                  refine z_icmp_eq (pc := 398) (tgt := 1221) dL_law_398 (by decide) (fun hc => ?_) (fun hc => ?_)
                  · rw [if_pos hc] at hf
                    refine z_iinc (pc := 1221) (j := 3) (ls' := [(3, .int (v3 + 6)), (0, .ref 4000), (1, .ref 0), (2, .ref 41)]) dL_law_1221 rfl ki_6 (Nat.le_of_ble_eq_true rfl) rfl ?_
                    refine z_goto (pc := 1224) (tgt := 18) dL_law_1224 (by decide) ?_
                    obtain rfl := Option.some.inj hf
                    exact z_pick (ls' := [(0, .ref 4000), (1, .ref 0), (2, .ref 41), (3, .int (v3 + 6))]) [1, 2, 3, 0] rfl (h1 ((v3 + 6), q40.2) hK)
                  · rw [if_neg hc] at hf
                    refine z_iconst (pc := 401) dL_law_401 ki_0 ?_
                    obtain rfl := Option.some.inj hf
                    rw [h0 _ hK]
                    exact z_iret dL_law_402 rfl rfl
                · rw [if_neg hs6] at hf
                  by_cases hs7 : (w2 &&& 63) = 7
                  · rw [if_pos hs7] at hf
                    refine z_tabIn (pc := 33) (off := 370) (tgt := 403) dL_law_33 (by rw [hs7]; decide) (by rw [hs7]; decide) (by rw [hs7]; rfl) (by decide) ?_
                    refine z_aload_n (pc := 403) (i := 1) (j := 1) dL_law_403 rfl rfl ?_
                    refine z_aload_n (pc := 404) (i := 0) (j := 0) dL_law_404 rfl rfl ?_
                    refine z_iload_n (pc := 405) (i := 3) (j := 3) dL_law_405 rfl rfl ?_
                    refine z_iconst (pc := 406) dL_law_406 ki_1 ?_
                    refine z_iadd (pc := 407) dL_law_407 ?_
                    obtain ⟨w41, hw41, hf⟩ := Option.bind_eq_some_iff.mp hf
                    refine z_oiald (pc := 408) dL_law_408 hw41 ?_
                    obtain ⟨q42, hq42, hf⟩ := Option.bind_eq_some_iff.mp hf
                    refine z_oVi (pc := 409) (as := [.int w41]) (rest := []) dL_law_409 lm_RL_45 mf_X10_take mi_X10_take mv_X10_take rc_0 rfl rfl (Nat.le_of_ble_eq_true rfl) (c_X10_take e (by omega) w41 m hq42) ?_
                    refine z_aload_n (pc := 412) (i := 2) (j := 2) dL_law_412 rfl rfl ?_
                    refine z_aload_n (pc := 413) (i := 0) (j := 0) dL_law_413 rfl rfl ?_
                    refine z_iload_n (pc := 414) (i := 3) (j := 3) dL_law_414 rfl rfl ?_
                    refine z_iconst (pc := 415) dL_law_415 ki_1 ?_
                    refine z_iadd (pc := 416) dL_law_416 ?_
                    obtain ⟨w43, hw43, hf⟩ := Option.bind_eq_some_iff.mp hf
                    refine z_oiald (pc := 417) dL_law_417 hw43 ?_
                    obtain ⟨q44, hq44, hf⟩ := Option.bind_eq_some_iff.mp hf
                    refine z_oVi (pc := 418) (as := [.int w43]) (rest := [.int q42.1]) dL_law_418 lm_RL_48 mf_X11_take mi_X11_take mv_X11_take rc_41 rfl rfl (Nat.le_of_ble_eq_true rfl) (c_X11_take e (by omega) w43 q42.2 hq44) ?_
                    refine z_icmp_eq (pc := 421) (tgt := 1221) dL_law_421 (by decide) (fun hc => ?_) (fun hc => ?_)
                    · rw [if_pos hc] at hf
                      refine z_iinc (pc := 1221) (j := 3) (ls' := [(3, .int (v3 + 6)), (0, .ref 4000), (1, .ref 0), (2, .ref 41)]) dL_law_1221 rfl ki_6 (Nat.le_of_ble_eq_true rfl) rfl ?_
                      refine z_goto (pc := 1224) (tgt := 18) dL_law_1224 (by decide) ?_
                      obtain rfl := Option.some.inj hf
                      exact z_pick (ls' := [(0, .ref 4000), (1, .ref 0), (2, .ref 41), (3, .int (v3 + 6))]) [1, 2, 3, 0] rfl (h1 ((v3 + 6), q44.2) hK)
                    · rw [if_neg hc] at hf
                      refine z_iconst (pc := 424) dL_law_424 ki_0 ?_
                      obtain rfl := Option.some.inj hf
                      rw [h0 _ hK]
                      exact z_iret dL_law_425 rfl rfl
                  · rw [if_neg hs7] at hf
                    by_cases hs8 : (w2 &&& 63) = 8
                    · rw [if_pos hs8] at hf
                      refine z_tabIn (pc := 33) (off := 393) (tgt := 426) dL_law_33 (by rw [hs8]; decide) (by rw [hs8]; decide) (by rw [hs8]; rfl) (by decide) ?_
                      refine z_aload_n (pc := 426) (i := 1) (j := 1) dL_law_426 rfl rfl ?_
                      refine z_aload_n (pc := 427) (i := 0) (j := 0) dL_law_427 rfl rfl ?_
                      refine z_iload_n (pc := 428) (i := 3) (j := 3) dL_law_428 rfl rfl ?_
                      refine z_iconst (pc := 429) dL_law_429 ki_1 ?_
                      refine z_iadd (pc := 430) dL_law_430 ?_
                      obtain ⟨w45, hw45, hf⟩ := Option.bind_eq_some_iff.mp hf
                      refine z_oiald (pc := 431) dL_law_431 hw45 ?_
                      obtain ⟨q46, hq46, hf⟩ := Option.bind_eq_some_iff.mp hf
                      refine z_oVi (pc := 432) (as := [.int w45]) (rest := []) dL_law_432 lm_RL_49 mf_X10_turn mi_X10_turn mv_X10_turn rc_0 rfl rfl (Nat.le_of_ble_eq_true rfl) (c_X10_turn e (by omega) w45 m hq46) ?_
                      refine z_aload_n (pc := 435) (i := 2) (j := 2) dL_law_435 rfl rfl ?_
                      refine z_aload_n (pc := 436) (i := 0) (j := 0) dL_law_436 rfl rfl ?_
                      refine z_iload_n (pc := 437) (i := 3) (j := 3) dL_law_437 rfl rfl ?_
                      refine z_iconst (pc := 438) dL_law_438 ki_1 ?_
                      refine z_iadd (pc := 439) dL_law_439 ?_
                      obtain ⟨w47, hw47, hf⟩ := Option.bind_eq_some_iff.mp hf
                      refine z_oiald (pc := 440) dL_law_440 hw47 ?_
                      obtain ⟨q48, hq48, hf⟩ := Option.bind_eq_some_iff.mp hf
                      refine z_oVi (pc := 441) (as := [.int w47]) (rest := [.int q46.1]) dL_law_441 lm_RL_52 mf_X11_turn mi_X11_turn mv_X11_turn rc_41 rfl rfl (Nat.le_of_ble_eq_true rfl) (c_X11_turn e (by omega) w47 q46.2 hq48) ?_
                      refine z_icmp_eq (pc := 444) (tgt := 1221) dL_law_444 (by decide) (fun hc => ?_) (fun hc => ?_)
                      · rw [if_pos hc] at hf
                        refine z_iinc (pc := 1221) (j := 3) (ls' := [(3, .int (v3 + 6)), (0, .ref 4000), (1, .ref 0), (2, .ref 41)]) dL_law_1221 rfl ki_6 (Nat.le_of_ble_eq_true rfl) rfl ?_
                        refine z_goto (pc := 1224) (tgt := 18) dL_law_1224 (by decide) ?_
                        obtain rfl := Option.some.inj hf
                        exact z_pick (ls' := [(0, .ref 4000), (1, .ref 0), (2, .ref 41), (3, .int (v3 + 6))]) [1, 2, 3, 0] rfl (h1 ((v3 + 6), q48.2) hK)
                      · rw [if_neg hc] at hf
                        refine z_iconst (pc := 447) dL_law_447 ki_0 ?_
                        obtain rfl := Option.some.inj hf
                        rw [h0 _ hK]
                        exact z_iret dL_law_448 rfl rfl
                    · rw [if_neg hs8] at hf
                      by_cases hs9 : (w2 &&& 63) = 9
                      · rw [if_pos hs9] at hf
                        refine z_tabIn (pc := 33) (off := 416) (tgt := 449) dL_law_33 (by rw [hs9]; decide) (by rw [hs9]; decide) (by rw [hs9]; rfl) (by decide) ?_
                        refine z_aload_n (pc := 449) (i := 1) (j := 1) dL_law_449 rfl rfl ?_
                        obtain ⟨q49, hq49, hf⟩ := Option.bind_eq_some_iff.mp hf
                        refine z_oVi (pc := 450) (as := []) (rest := []) dL_law_450 lm_RL_53 mf_X10_broken mi_X10_broken mv_X10_broken rc_0 rfl rfl (Nat.le_of_ble_eq_true rfl) (c_X10_broken e (by omega) m hq49) ?_
                        refine z_aload_n (pc := 453) (i := 2) (j := 2) dL_law_453 rfl rfl ?_
                        obtain ⟨q50, hq50, hf⟩ := Option.bind_eq_some_iff.mp hf
                        refine z_oVi (pc := 454) (as := []) (rest := [.int q49.1]) dL_law_454 lm_RL_56 mf_X11_broken mi_X11_broken mv_X11_broken rc_41 rfl rfl (Nat.le_of_ble_eq_true rfl) (c_X11_broken e (by omega) q49.2 hq50) ?_
                        refine z_icmp_eq (pc := 457) (tgt := 1221) dL_law_457 (by decide) (fun hc => ?_) (fun hc => ?_)
                        · rw [if_pos hc] at hf
                          refine z_iinc (pc := 1221) (j := 3) (ls' := [(3, .int (v3 + 6)), (0, .ref 4000), (1, .ref 0), (2, .ref 41)]) dL_law_1221 rfl ki_6 (Nat.le_of_ble_eq_true rfl) rfl ?_
                          refine z_goto (pc := 1224) (tgt := 18) dL_law_1224 (by decide) ?_
                          obtain rfl := Option.some.inj hf
                          exact z_pick (ls' := [(0, .ref 4000), (1, .ref 0), (2, .ref 41), (3, .int (v3 + 6))]) [1, 2, 3, 0] rfl (h1 ((v3 + 6), q50.2) hK)
                        · rw [if_neg hc] at hf
                          refine z_iconst (pc := 460) dL_law_460 ki_0 ?_
                          obtain rfl := Option.some.inj hf
                          rw [h0 _ hK]
                          exact z_iret dL_law_461 rfl rfl
                      · rw [if_neg hs9] at hf
                        by_cases hs10 : (w2 &&& 63) = 10
                        · rw [if_pos hs10] at hf
                          refine z_tabIn (pc := 33) (off := 429) (tgt := 462) dL_law_33 (by rw [hs10]; decide) (by rw [hs10]; decide) (by rw [hs10]; rfl) (by decide) ?_
                          refine z_aload_n (pc := 462) (i := 1) (j := 1) dL_law_462 rfl rfl ?_
                          obtain ⟨q51, hq51, hf⟩ := Option.bind_eq_some_iff.mp hf
                          refine z_oVi (pc := 463) (as := []) (rest := []) dL_law_463 lm_RL_57 mf_X10_maySell mi_X10_maySell mv_X10_maySell rc_0 rfl rfl (Nat.le_of_ble_eq_true rfl) (c_X10_maySell e (by omega) m hq51) ?_
                          refine z_aload_n (pc := 466) (i := 2) (j := 2) dL_law_466 rfl rfl ?_
                          obtain ⟨q52, hq52, hf⟩ := Option.bind_eq_some_iff.mp hf
                          refine z_oVi (pc := 467) (as := []) (rest := [.int q51.1]) dL_law_467 lm_RL_60 mf_X11_maySell mi_X11_maySell mv_X11_maySell rc_41 rfl rfl (Nat.le_of_ble_eq_true rfl) (c_X11_maySell e (by omega) q51.2 hq52) ?_
                          refine z_icmp_eq (pc := 470) (tgt := 1221) dL_law_470 (by decide) (fun hc => ?_) (fun hc => ?_)
                          · rw [if_pos hc] at hf
                            refine z_iinc (pc := 1221) (j := 3) (ls' := [(3, .int (v3 + 6)), (0, .ref 4000), (1, .ref 0), (2, .ref 41)]) dL_law_1221 rfl ki_6 (Nat.le_of_ble_eq_true rfl) rfl ?_
                            refine z_goto (pc := 1224) (tgt := 18) dL_law_1224 (by decide) ?_
                            obtain rfl := Option.some.inj hf
                            exact z_pick (ls' := [(0, .ref 4000), (1, .ref 0), (2, .ref 41), (3, .int (v3 + 6))]) [1, 2, 3, 0] rfl (h1 ((v3 + 6), q52.2) hK)
                          · rw [if_neg hc] at hf
                            refine z_iconst (pc := 473) dL_law_473 ki_0 ?_
                            obtain rfl := Option.some.inj hf
                            rw [h0 _ hK]
                            exact z_iret dL_law_474 rfl rfl
                        · rw [if_neg hs10] at hf
                          by_cases hs11 : (w2 &&& 63) = 11
                          · rw [if_pos hs11] at hf
                            refine z_tabIn (pc := 33) (off := 442) (tgt := 475) dL_law_33 (by rw [hs11]; decide) (by rw [hs11]; decide) (by rw [hs11]; rfl) (by decide) ?_
                            refine z_aload_n (pc := 475) (i := 1) (j := 1) dL_law_475 rfl rfl ?_
                            refine z_aload_n (pc := 476) (i := 0) (j := 0) dL_law_476 rfl rfl ?_
                            refine z_iload_n (pc := 477) (i := 3) (j := 3) dL_law_477 rfl rfl ?_
                            refine z_iconst (pc := 478) dL_law_478 ki_1 ?_
                            refine z_iadd (pc := 479) dL_law_479 ?_
                            obtain ⟨w53, hw53, hf⟩ := Option.bind_eq_some_iff.mp hf
                            refine z_oiald (pc := 480) dL_law_480 hw53 ?_
                            obtain ⟨q54, hq54, hf⟩ := Option.bind_eq_some_iff.mp hf
                            refine z_oVi (pc := 481) (as := [.int w53]) (rest := []) dL_law_481 lm_RL_61 mf_X10_ways mi_X10_ways mv_X10_ways rc_0 rfl rfl (Nat.le_of_ble_eq_true rfl) (c_X10_ways e (by omega) w53 m hq54) ?_
                            refine z_aload_n (pc := 484) (i := 2) (j := 2) dL_law_484 rfl rfl ?_
                            refine z_aload_n (pc := 485) (i := 0) (j := 0) dL_law_485 rfl rfl ?_
                            refine z_iload_n (pc := 486) (i := 3) (j := 3) dL_law_486 rfl rfl ?_
                            refine z_iconst (pc := 487) dL_law_487 ki_1 ?_
                            refine z_iadd (pc := 488) dL_law_488 ?_
                            obtain ⟨w55, hw55, hf⟩ := Option.bind_eq_some_iff.mp hf
                            refine z_oiald (pc := 489) dL_law_489 hw55 ?_
                            obtain ⟨q56, hq56, hf⟩ := Option.bind_eq_some_iff.mp hf
                            refine z_oVi (pc := 490) (as := [.int w55]) (rest := [.int q54.1]) dL_law_490 lm_RL_64 mf_X11_ways mi_X11_ways mv_X11_ways rc_41 rfl rfl (Nat.le_of_ble_eq_true rfl) (c_X11_ways e (by omega) w55 q54.2 hq56) ?_
                            refine z_icmp_eq (pc := 493) (tgt := 1221) dL_law_493 (by decide) (fun hc => ?_) (fun hc => ?_)
                            · rw [if_pos hc] at hf
                              refine z_iinc (pc := 1221) (j := 3) (ls' := [(3, .int (v3 + 6)), (0, .ref 4000), (1, .ref 0), (2, .ref 41)]) dL_law_1221 rfl ki_6 (Nat.le_of_ble_eq_true rfl) rfl ?_
                              refine z_goto (pc := 1224) (tgt := 18) dL_law_1224 (by decide) ?_
                              obtain rfl := Option.some.inj hf
                              exact z_pick (ls' := [(0, .ref 4000), (1, .ref 0), (2, .ref 41), (3, .int (v3 + 6))]) [1, 2, 3, 0] rfl (h1 ((v3 + 6), q56.2) hK)
                            · rw [if_neg hc] at hf
                              refine z_iconst (pc := 496) dL_law_496 ki_0 ?_
                              obtain rfl := Option.some.inj hf
                              rw [h0 _ hK]
                              exact z_iret dL_law_497 rfl rfl
                          · rw [if_neg hs11] at hf
                            by_cases hs12 : (w2 &&& 63) = 12
                            · rw [if_pos hs12] at hf
                              refine z_tabIn (pc := 33) (off := 465) (tgt := 498) dL_law_33 (by rw [hs12]; decide) (by rw [hs12]; decide) (by rw [hs12]; rfl) (by decide) ?_
                              refine z_aload_n (pc := 498) (i := 1) (j := 1) dL_law_498 rfl rfl ?_
                              refine z_aload_n (pc := 499) (i := 0) (j := 0) dL_law_499 rfl rfl ?_
                              refine z_iload_n (pc := 500) (i := 3) (j := 3) dL_law_500 rfl rfl ?_
                              refine z_iconst (pc := 501) dL_law_501 ki_1 ?_
                              refine z_iadd (pc := 502) dL_law_502 ?_
                              obtain ⟨w57, hw57, hf⟩ := Option.bind_eq_some_iff.mp hf
                              refine z_oiald (pc := 503) dL_law_503 hw57 ?_
                              refine z_aload_n (pc := 504) (i := 0) (j := 0) dL_law_504 rfl rfl ?_
                              refine z_iload_n (pc := 505) (i := 3) (j := 3) dL_law_505 rfl rfl ?_
                              refine z_iconst (pc := 506) dL_law_506 ki_2 ?_
                              refine z_iadd (pc := 507) dL_law_507 ?_
                              obtain ⟨w58, hw58, hf⟩ := Option.bind_eq_some_iff.mp hf
                              refine z_oiald (pc := 508) dL_law_508 hw58 ?_
                              obtain ⟨q59, hq59, hf⟩ := Option.bind_eq_some_iff.mp hf
                              refine z_oVi (pc := 509) (as := [.int w57, .int w58]) (rest := []) dL_law_509 lm_RL_65 mf_X10_rows mi_X10_rows mv_X10_rows rc_0 rfl rfl (Nat.le_of_ble_eq_true rfl) (c_X10_rows e (by omega) w57 w58 m hq59) ?_
                              refine z_aload_n (pc := 512) (i := 2) (j := 2) dL_law_512 rfl rfl ?_
                              refine z_aload_n (pc := 513) (i := 0) (j := 0) dL_law_513 rfl rfl ?_
                              refine z_iload_n (pc := 514) (i := 3) (j := 3) dL_law_514 rfl rfl ?_
                              refine z_iconst (pc := 515) dL_law_515 ki_1 ?_
                              refine z_iadd (pc := 516) dL_law_516 ?_
                              obtain ⟨w60, hw60, hf⟩ := Option.bind_eq_some_iff.mp hf
                              refine z_oiald (pc := 517) dL_law_517 hw60 ?_
                              refine z_aload_n (pc := 518) (i := 0) (j := 0) dL_law_518 rfl rfl ?_
                              refine z_iload_n (pc := 519) (i := 3) (j := 3) dL_law_519 rfl rfl ?_
                              refine z_iconst (pc := 520) dL_law_520 ki_2 ?_
                              refine z_iadd (pc := 521) dL_law_521 ?_
                              obtain ⟨w61, hw61, hf⟩ := Option.bind_eq_some_iff.mp hf
                              refine z_oiald (pc := 522) dL_law_522 hw61 ?_
                              obtain ⟨q62, hq62, hf⟩ := Option.bind_eq_some_iff.mp hf
                              refine z_oVi (pc := 523) (as := [.int w60, .int w61]) (rest := [.int q59.1]) dL_law_523 lm_RL_68 mf_X11_rows mi_X11_rows mv_X11_rows rc_41 rfl rfl (Nat.le_of_ble_eq_true rfl) (c_X11_rows e (by omega) w60 w61 q59.2 hq62) ?_
                              refine z_icmp_eq (pc := 526) (tgt := 1221) dL_law_526 (by decide) (fun hc => ?_) (fun hc => ?_)
                              · rw [if_pos hc] at hf
                                refine z_iinc (pc := 1221) (j := 3) (ls' := [(3, .int (v3 + 6)), (0, .ref 4000), (1, .ref 0), (2, .ref 41)]) dL_law_1221 rfl ki_6 (Nat.le_of_ble_eq_true rfl) rfl ?_
                                refine z_goto (pc := 1224) (tgt := 18) dL_law_1224 (by decide) ?_
                                obtain rfl := Option.some.inj hf
                                exact z_pick (ls' := [(0, .ref 4000), (1, .ref 0), (2, .ref 41), (3, .int (v3 + 6))]) [1, 2, 3, 0] rfl (h1 ((v3 + 6), q62.2) hK)
                              · rw [if_neg hc] at hf
                                refine z_iconst (pc := 529) dL_law_529 ki_0 ?_
                                obtain rfl := Option.some.inj hf
                                rw [h0 _ hK]
                                exact z_iret dL_law_530 rfl rfl
                            · rw [if_neg hs12] at hf
                              by_cases hs13 : (w2 &&& 63) = 13
                              · rw [if_pos hs13] at hf
                                refine z_tabIn (pc := 33) (off := 498) (tgt := 531) dL_law_33 (by rw [hs13]; decide) (by rw [hs13]; decide) (by rw [hs13]; rfl) (by decide) ?_
                                refine z_aload_n (pc := 531) (i := 1) (j := 1) dL_law_531 rfl rfl ?_
                                refine z_aload_n (pc := 532) (i := 0) (j := 0) dL_law_532 rfl rfl ?_
                                refine z_iload_n (pc := 533) (i := 3) (j := 3) dL_law_533 rfl rfl ?_
                                refine z_iconst (pc := 534) dL_law_534 ki_1 ?_
                                refine z_iadd (pc := 535) dL_law_535 ?_
                                obtain ⟨w63, hw63, hf⟩ := Option.bind_eq_some_iff.mp hf
                                refine z_oiald (pc := 536) dL_law_536 hw63 ?_
                                obtain ⟨q64, hq64, hf⟩ := Option.bind_eq_some_iff.mp hf
                                refine z_oVi (pc := 537) (as := [.int w63]) (rest := []) dL_law_537 lm_RL_69 mf_X10_ounces mi_X10_ounces mv_X10_ounces rc_0 rfl rfl (Nat.le_of_ble_eq_true rfl) (c_X10_ounces e (by omega) w63 m hq64) ?_
                                refine z_aload_n (pc := 540) (i := 2) (j := 2) dL_law_540 rfl rfl ?_
                                refine z_aload_n (pc := 541) (i := 0) (j := 0) dL_law_541 rfl rfl ?_
                                refine z_iload_n (pc := 542) (i := 3) (j := 3) dL_law_542 rfl rfl ?_
                                refine z_iconst (pc := 543) dL_law_543 ki_1 ?_
                                refine z_iadd (pc := 544) dL_law_544 ?_
                                obtain ⟨w65, hw65, hf⟩ := Option.bind_eq_some_iff.mp hf
                                refine z_oiald (pc := 545) dL_law_545 hw65 ?_
                                obtain ⟨q66, hq66, hf⟩ := Option.bind_eq_some_iff.mp hf
                                refine z_oVi (pc := 546) (as := [.int w65]) (rest := [.int q64.1]) dL_law_546 lm_RL_72 mf_X11_ounces mi_X11_ounces mv_X11_ounces rc_41 rfl rfl (Nat.le_of_ble_eq_true rfl) (c_X11_ounces e (by omega) w65 q64.2 hq66) ?_
                                refine z_icmp_eq (pc := 549) (tgt := 1221) dL_law_549 (by decide) (fun hc => ?_) (fun hc => ?_)
                                · rw [if_pos hc] at hf
                                  refine z_iinc (pc := 1221) (j := 3) (ls' := [(3, .int (v3 + 6)), (0, .ref 4000), (1, .ref 0), (2, .ref 41)]) dL_law_1221 rfl ki_6 (Nat.le_of_ble_eq_true rfl) rfl ?_
                                  refine z_goto (pc := 1224) (tgt := 18) dL_law_1224 (by decide) ?_
                                  obtain rfl := Option.some.inj hf
                                  exact z_pick (ls' := [(0, .ref 4000), (1, .ref 0), (2, .ref 41), (3, .int (v3 + 6))]) [1, 2, 3, 0] rfl (h1 ((v3 + 6), q66.2) hK)
                                · rw [if_neg hc] at hf
                                  refine z_iconst (pc := 552) dL_law_552 ki_0 ?_
                                  obtain rfl := Option.some.inj hf
                                  rw [h0 _ hK]
                                  exact z_iret dL_law_553 rfl rfl
                              · rw [if_neg hs13] at hf
                                by_cases hs14 : (w2 &&& 63) = 14
                                · rw [if_pos hs14] at hf
                                  refine z_tabIn (pc := 33) (off := 521) (tgt := 554) dL_law_33 (by rw [hs14]; decide) (by rw [hs14]; decide) (by rw [hs14]; rfl) (by decide) ?_
                                  refine z_aload_n (pc := 554) (i := 1) (j := 1) dL_law_554 rfl rfl ?_
                                  refine z_aload_n (pc := 555) (i := 0) (j := 0) dL_law_555 rfl rfl ?_
                                  refine z_iload_n (pc := 556) (i := 3) (j := 3) dL_law_556 rfl rfl ?_
                                  refine z_iconst (pc := 557) dL_law_557 ki_1 ?_
                                  refine z_iadd (pc := 558) dL_law_558 ?_
                                  obtain ⟨w67, hw67, hf⟩ := Option.bind_eq_some_iff.mp hf
                                  refine z_oiald (pc := 559) dL_law_559 hw67 ?_
                                  obtain ⟨q68, hq68, hf⟩ := Option.bind_eq_some_iff.mp hf
                                  refine z_oVi (pc := 560) (as := [.int w67]) (rest := []) dL_law_560 lm_RL_73 mf_X10_makeUp mi_X10_makeUp mv_X10_makeUp rc_0 rfl rfl (Nat.le_of_ble_eq_true rfl) (c_X10_makeUp e (by omega) w67 m hq68) ?_
                                  refine z_aload_n (pc := 563) (i := 2) (j := 2) dL_law_563 rfl rfl ?_
                                  refine z_aload_n (pc := 564) (i := 0) (j := 0) dL_law_564 rfl rfl ?_
                                  refine z_iload_n (pc := 565) (i := 3) (j := 3) dL_law_565 rfl rfl ?_
                                  refine z_iconst (pc := 566) dL_law_566 ki_1 ?_
                                  refine z_iadd (pc := 567) dL_law_567 ?_
                                  obtain ⟨w69, hw69, hf⟩ := Option.bind_eq_some_iff.mp hf
                                  refine z_oiald (pc := 568) dL_law_568 hw69 ?_
                                  obtain ⟨q70, hq70, hf⟩ := Option.bind_eq_some_iff.mp hf
                                  refine z_oVi (pc := 569) (as := [.int w69]) (rest := [.int q68.1]) dL_law_569 lm_RL_76 mf_X11_makeUp mi_X11_makeUp mv_X11_makeUp rc_41 rfl rfl (Nat.le_of_ble_eq_true rfl) (c_X11_makeUp e (by omega) w69 q68.2 hq70) ?_
                                  refine z_icmp_eq (pc := 572) (tgt := 1221) dL_law_572 (by decide) (fun hc => ?_) (fun hc => ?_)
                                  · rw [if_pos hc] at hf
                                    refine z_iinc (pc := 1221) (j := 3) (ls' := [(3, .int (v3 + 6)), (0, .ref 4000), (1, .ref 0), (2, .ref 41)]) dL_law_1221 rfl ki_6 (Nat.le_of_ble_eq_true rfl) rfl ?_
                                    refine z_goto (pc := 1224) (tgt := 18) dL_law_1224 (by decide) ?_
                                    obtain rfl := Option.some.inj hf
                                    exact z_pick (ls' := [(0, .ref 4000), (1, .ref 0), (2, .ref 41), (3, .int (v3 + 6))]) [1, 2, 3, 0] rfl (h1 ((v3 + 6), q70.2) hK)
                                  · rw [if_neg hc] at hf
                                    refine z_iconst (pc := 575) dL_law_575 ki_0 ?_
                                    obtain rfl := Option.some.inj hf
                                    rw [h0 _ hK]
                                    exact z_iret dL_law_576 rfl rfl
                                · rw [if_neg hs14] at hf
                                  by_cases hs15 : (w2 &&& 63) = 15
                                  · rw [if_pos hs15] at hf
                                    refine z_tabIn (pc := 33) (off := 544) (tgt := 577) dL_law_33 (by rw [hs15]; decide) (by rw [hs15]; decide) (by rw [hs15]; rfl) (by decide) ?_
                                    refine z_aload_n (pc := 577) (i := 1) (j := 1) dL_law_577 rfl rfl ?_
                                    refine z_aload_n (pc := 578) (i := 0) (j := 0) dL_law_578 rfl rfl ?_
                                    refine z_iload_n (pc := 579) (i := 3) (j := 3) dL_law_579 rfl rfl ?_
                                    refine z_iconst (pc := 580) dL_law_580 ki_1 ?_
                                    refine z_iadd (pc := 581) dL_law_581 ?_
                                    obtain ⟨w71, hw71, hf⟩ := Option.bind_eq_some_iff.mp hf
                                    refine z_oiald (pc := 582) dL_law_582 hw71 ?_
                                    obtain ⟨q72, hq72, hf⟩ := Option.bind_eq_some_iff.mp hf
                                    refine z_oVi (pc := 583) (as := [.int w71]) (rest := []) dL_law_583 lm_RL_77 mf_X10_ends mi_X10_ends mv_X10_ends rc_0 rfl rfl (Nat.le_of_ble_eq_true rfl) (c_X10_ends e (by omega) w71 m hq72) ?_
                                    refine z_aload_n (pc := 586) (i := 2) (j := 2) dL_law_586 rfl rfl ?_
                                    refine z_aload_n (pc := 587) (i := 0) (j := 0) dL_law_587 rfl rfl ?_
                                    refine z_iload_n (pc := 588) (i := 3) (j := 3) dL_law_588 rfl rfl ?_
                                    refine z_iconst (pc := 589) dL_law_589 ki_1 ?_
                                    refine z_iadd (pc := 590) dL_law_590 ?_
                                    obtain ⟨w73, hw73, hf⟩ := Option.bind_eq_some_iff.mp hf
                                    refine z_oiald (pc := 591) dL_law_591 hw73 ?_
                                    obtain ⟨q74, hq74, hf⟩ := Option.bind_eq_some_iff.mp hf
                                    refine z_oVi (pc := 592) (as := [.int w73]) (rest := [.int q72.1]) dL_law_592 lm_RL_80 mf_X11_ends mi_X11_ends mv_X11_ends rc_41 rfl rfl (Nat.le_of_ble_eq_true rfl) (c_X11_ends e (by omega) w73 q72.2 hq74) ?_
                                    refine z_icmp_eq (pc := 595) (tgt := 1221) dL_law_595 (by decide) (fun hc => ?_) (fun hc => ?_)
                                    · rw [if_pos hc] at hf
                                      refine z_iinc (pc := 1221) (j := 3) (ls' := [(3, .int (v3 + 6)), (0, .ref 4000), (1, .ref 0), (2, .ref 41)]) dL_law_1221 rfl ki_6 (Nat.le_of_ble_eq_true rfl) rfl ?_
                                      refine z_goto (pc := 1224) (tgt := 18) dL_law_1224 (by decide) ?_
                                      obtain rfl := Option.some.inj hf
                                      exact z_pick (ls' := [(0, .ref 4000), (1, .ref 0), (2, .ref 41), (3, .int (v3 + 6))]) [1, 2, 3, 0] rfl (h1 ((v3 + 6), q74.2) hK)
                                    · rw [if_neg hc] at hf
                                      refine z_iconst (pc := 598) dL_law_598 ki_0 ?_
                                      obtain rfl := Option.some.inj hf
                                      rw [h0 _ hK]
                                      exact z_iret dL_law_599 rfl rfl
                                  · rw [if_neg hs15] at hf
                                    by_cases hs16 : (w2 &&& 63) = 16
                                    · rw [if_pos hs16] at hf
                                      refine z_tabIn (pc := 33) (off := 567) (tgt := 600) dL_law_33 (by rw [hs16]; decide) (by rw [hs16]; decide) (by rw [hs16]; rfl) (by decide) ?_
                                      refine z_aload_n (pc := 600) (i := 1) (j := 1) dL_law_600 rfl rfl ?_
                                      refine z_aload_n (pc := 601) (i := 0) (j := 0) dL_law_601 rfl rfl ?_
                                      refine z_iload_n (pc := 602) (i := 3) (j := 3) dL_law_602 rfl rfl ?_
                                      refine z_iconst (pc := 603) dL_law_603 ki_1 ?_
                                      refine z_iadd (pc := 604) dL_law_604 ?_
                                      obtain ⟨w75, hw75, hf⟩ := Option.bind_eq_some_iff.mp hf
                                      refine z_oiald (pc := 605) dL_law_605 hw75 ?_
                                      obtain ⟨q76, hq76, hf⟩ := Option.bind_eq_some_iff.mp hf
                                      refine z_oVi (pc := 606) (as := [.int w75]) (rest := []) dL_law_606 lm_RL_81 mf_X10_aside mi_X10_aside mv_X10_aside rc_0 rfl rfl (Nat.le_of_ble_eq_true rfl) (c_X10_aside e (by omega) w75 m hq76) ?_
                                      refine z_aload_n (pc := 609) (i := 2) (j := 2) dL_law_609 rfl rfl ?_
                                      refine z_aload_n (pc := 610) (i := 0) (j := 0) dL_law_610 rfl rfl ?_
                                      refine z_iload_n (pc := 611) (i := 3) (j := 3) dL_law_611 rfl rfl ?_
                                      refine z_iconst (pc := 612) dL_law_612 ki_1 ?_
                                      refine z_iadd (pc := 613) dL_law_613 ?_
                                      obtain ⟨w77, hw77, hf⟩ := Option.bind_eq_some_iff.mp hf
                                      refine z_oiald (pc := 614) dL_law_614 hw77 ?_
                                      obtain ⟨q78, hq78, hf⟩ := Option.bind_eq_some_iff.mp hf
                                      refine z_oVi (pc := 615) (as := [.int w77]) (rest := [.int q76.1]) dL_law_615 lm_RL_84 mf_X11_aside mi_X11_aside mv_X11_aside rc_41 rfl rfl (Nat.le_of_ble_eq_true rfl) (c_X11_aside e (by omega) w77 q76.2 hq78) ?_
                                      refine z_icmp_eq (pc := 618) (tgt := 1221) dL_law_618 (by decide) (fun hc => ?_) (fun hc => ?_)
                                      · rw [if_pos hc] at hf
                                        refine z_iinc (pc := 1221) (j := 3) (ls' := [(3, .int (v3 + 6)), (0, .ref 4000), (1, .ref 0), (2, .ref 41)]) dL_law_1221 rfl ki_6 (Nat.le_of_ble_eq_true rfl) rfl ?_
                                        refine z_goto (pc := 1224) (tgt := 18) dL_law_1224 (by decide) ?_
                                        obtain rfl := Option.some.inj hf
                                        exact z_pick (ls' := [(0, .ref 4000), (1, .ref 0), (2, .ref 41), (3, .int (v3 + 6))]) [1, 2, 3, 0] rfl (h1 ((v3 + 6), q78.2) hK)
                                      · rw [if_neg hc] at hf
                                        refine z_iconst (pc := 621) dL_law_621 ki_0 ?_
                                        obtain rfl := Option.some.inj hf
                                        rw [h0 _ hK]
                                        exact z_iret dL_law_622 rfl rfl
                                    · rw [if_neg hs16] at hf
                                      by_cases hs17 : (w2 &&& 63) = 17
                                      · rw [if_pos hs17] at hf
                                        refine z_tabIn (pc := 33) (off := 590) (tgt := 623) dL_law_33 (by rw [hs17]; decide) (by rw [hs17]; decide) (by rw [hs17]; rfl) (by decide) ?_
                                        refine z_aload_n (pc := 623) (i := 1) (j := 1) dL_law_623 rfl rfl ?_
                                        refine z_aload_n (pc := 624) (i := 0) (j := 0) dL_law_624 rfl rfl ?_
                                        refine z_iload_n (pc := 625) (i := 3) (j := 3) dL_law_625 rfl rfl ?_
                                        refine z_iconst (pc := 626) dL_law_626 ki_1 ?_
                                        refine z_iadd (pc := 627) dL_law_627 ?_
                                        obtain ⟨w79, hw79, hf⟩ := Option.bind_eq_some_iff.mp hf
                                        refine z_oiald (pc := 628) dL_law_628 hw79 ?_
                                        obtain ⟨q80, hq80, hf⟩ := Option.bind_eq_some_iff.mp hf
                                        refine z_oVi (pc := 629) (as := [.int w79]) (rest := []) dL_law_629 lm_RL_85 mf_X10_soldOn mi_X10_soldOn mv_X10_soldOn rc_0 rfl rfl (Nat.le_of_ble_eq_true rfl) (c_X10_soldOn e (by omega) w79 m hq80) ?_
                                        refine z_aload_n (pc := 632) (i := 2) (j := 2) dL_law_632 rfl rfl ?_
                                        refine z_aload_n (pc := 633) (i := 0) (j := 0) dL_law_633 rfl rfl ?_
                                        refine z_iload_n (pc := 634) (i := 3) (j := 3) dL_law_634 rfl rfl ?_
                                        refine z_iconst (pc := 635) dL_law_635 ki_1 ?_
                                        refine z_iadd (pc := 636) dL_law_636 ?_
                                        obtain ⟨w81, hw81, hf⟩ := Option.bind_eq_some_iff.mp hf
                                        refine z_oiald (pc := 637) dL_law_637 hw81 ?_
                                        obtain ⟨q82, hq82, hf⟩ := Option.bind_eq_some_iff.mp hf
                                        refine z_oVi (pc := 638) (as := [.int w81]) (rest := [.int q80.1]) dL_law_638 lm_RL_88 mf_X11_soldOn mi_X11_soldOn mv_X11_soldOn rc_41 rfl rfl (Nat.le_of_ble_eq_true rfl) (c_X11_soldOn e (by omega) w81 q80.2 hq82) ?_
                                        refine z_icmp_eq (pc := 641) (tgt := 1221) dL_law_641 (by decide) (fun hc => ?_) (fun hc => ?_)
                                        · rw [if_pos hc] at hf
                                          refine z_iinc (pc := 1221) (j := 3) (ls' := [(3, .int (v3 + 6)), (0, .ref 4000), (1, .ref 0), (2, .ref 41)]) dL_law_1221 rfl ki_6 (Nat.le_of_ble_eq_true rfl) rfl ?_
                                          refine z_goto (pc := 1224) (tgt := 18) dL_law_1224 (by decide) ?_
                                          obtain rfl := Option.some.inj hf
                                          exact z_pick (ls' := [(0, .ref 4000), (1, .ref 0), (2, .ref 41), (3, .int (v3 + 6))]) [1, 2, 3, 0] rfl (h1 ((v3 + 6), q82.2) hK)
                                        · rw [if_neg hc] at hf
                                          refine z_iconst (pc := 644) dL_law_644 ki_0 ?_
                                          obtain rfl := Option.some.inj hf
                                          rw [h0 _ hK]
                                          exact z_iret dL_law_645 rfl rfl
                                      · rw [if_neg hs17] at hf
                                        by_cases hs18 : (w2 &&& 63) = 18
                                        · rw [if_pos hs18] at hf
                                          refine z_tabIn (pc := 33) (off := 613) (tgt := 646) dL_law_33 (by rw [hs18]; decide) (by rw [hs18]; decide) (by rw [hs18]; rfl) (by decide) ?_
                                          refine z_aload_n (pc := 646) (i := 1) (j := 1) dL_law_646 rfl rfl ?_
                                          refine z_aload_n (pc := 647) (i := 0) (j := 0) dL_law_647 rfl rfl ?_
                                          refine z_iload_n (pc := 648) (i := 3) (j := 3) dL_law_648 rfl rfl ?_
                                          refine z_iconst (pc := 649) dL_law_649 ki_1 ?_
                                          refine z_iadd (pc := 650) dL_law_650 ?_
                                          obtain ⟨w83, hw83, hf⟩ := Option.bind_eq_some_iff.mp hf
                                          refine z_oiald (pc := 651) dL_law_651 hw83 ?_
                                          refine z_aload_n (pc := 652) (i := 0) (j := 0) dL_law_652 rfl rfl ?_
                                          refine z_iload_n (pc := 653) (i := 3) (j := 3) dL_law_653 rfl rfl ?_
                                          refine z_iconst (pc := 654) dL_law_654 ki_2 ?_
                                          refine z_iadd (pc := 655) dL_law_655 ?_
                                          obtain ⟨w84, hw84, hf⟩ := Option.bind_eq_some_iff.mp hf
                                          refine z_oiald (pc := 656) dL_law_656 hw84 ?_
                                          obtain ⟨q85, hq85, hf⟩ := Option.bind_eq_some_iff.mp hf
                                          refine z_oVi (pc := 657) (as := [.int w83, .int w84]) (rest := []) dL_law_657 lm_RL_89 mf_X10_worth mi_X10_worth mv_X10_worth rc_0 rfl rfl (Nat.le_of_ble_eq_true rfl) (c_X10_worth e (by omega) w83 w84 m hq85) ?_
                                          refine z_aload_n (pc := 660) (i := 2) (j := 2) dL_law_660 rfl rfl ?_
                                          refine z_aload_n (pc := 661) (i := 0) (j := 0) dL_law_661 rfl rfl ?_
                                          refine z_iload_n (pc := 662) (i := 3) (j := 3) dL_law_662 rfl rfl ?_
                                          refine z_iconst (pc := 663) dL_law_663 ki_1 ?_
                                          refine z_iadd (pc := 664) dL_law_664 ?_
                                          obtain ⟨w86, hw86, hf⟩ := Option.bind_eq_some_iff.mp hf
                                          refine z_oiald (pc := 665) dL_law_665 hw86 ?_
                                          refine z_aload_n (pc := 666) (i := 0) (j := 0) dL_law_666 rfl rfl ?_
                                          refine z_iload_n (pc := 667) (i := 3) (j := 3) dL_law_667 rfl rfl ?_
                                          refine z_iconst (pc := 668) dL_law_668 ki_2 ?_
                                          refine z_iadd (pc := 669) dL_law_669 ?_
                                          obtain ⟨w87, hw87, hf⟩ := Option.bind_eq_some_iff.mp hf
                                          refine z_oiald (pc := 670) dL_law_670 hw87 ?_
                                          obtain ⟨q88, hq88, hf⟩ := Option.bind_eq_some_iff.mp hf
                                          refine z_oVi (pc := 671) (as := [.int w86, .int w87]) (rest := [.int q85.1]) dL_law_671 lm_RL_92 mf_X11_worth mi_X11_worth mv_X11_worth rc_41 rfl rfl (Nat.le_of_ble_eq_true rfl) (c_X11_worth e (by omega) w86 w87 q85.2 hq88) ?_
                                          refine z_icmp_eq (pc := 674) (tgt := 1221) dL_law_674 (by decide) (fun hc => ?_) (fun hc => ?_)
                                          · rw [if_pos hc] at hf
                                            refine z_iinc (pc := 1221) (j := 3) (ls' := [(3, .int (v3 + 6)), (0, .ref 4000), (1, .ref 0), (2, .ref 41)]) dL_law_1221 rfl ki_6 (Nat.le_of_ble_eq_true rfl) rfl ?_
                                            refine z_goto (pc := 1224) (tgt := 18) dL_law_1224 (by decide) ?_
                                            obtain rfl := Option.some.inj hf
                                            exact z_pick (ls' := [(0, .ref 4000), (1, .ref 0), (2, .ref 41), (3, .int (v3 + 6))]) [1, 2, 3, 0] rfl (h1 ((v3 + 6), q88.2) hK)
                                          · rw [if_neg hc] at hf
                                            refine z_iconst (pc := 677) dL_law_677 ki_0 ?_
                                            obtain rfl := Option.some.inj hf
                                            rw [h0 _ hK]
                                            exact z_iret dL_law_678 rfl rfl
                                        · rw [if_neg hs18] at hf
                                          by_cases hs19 : (w2 &&& 63) = 19
                                          · rw [if_pos hs19] at hf
                                            refine z_tabIn (pc := 33) (off := 646) (tgt := 679) dL_law_33 (by rw [hs19]; decide) (by rw [hs19]; decide) (by rw [hs19]; rfl) (by decide) ?_
                                            refine z_aload_n (pc := 679) (i := 1) (j := 1) dL_law_679 rfl rfl ?_
                                            refine z_aload_n (pc := 680) (i := 0) (j := 0) dL_law_680 rfl rfl ?_
                                            refine z_iload_n (pc := 681) (i := 3) (j := 3) dL_law_681 rfl rfl ?_
                                            refine z_iconst (pc := 682) dL_law_682 ki_1 ?_
                                            refine z_iadd (pc := 683) dL_law_683 ?_
                                            obtain ⟨w89, hw89, hf⟩ := Option.bind_eq_some_iff.mp hf
                                            refine z_oiald (pc := 684) dL_law_684 hw89 ?_
                                            obtain ⟨q90, hq90, hf⟩ := Option.bind_eq_some_iff.mp hf
                                            refine z_oVi (pc := 685) (as := [.int w89]) (rest := []) dL_law_685 lm_RL_93 mf_X10_fewest mi_X10_fewest mv_X10_fewest rc_0 rfl rfl (Nat.le_of_ble_eq_true rfl) (c_X10_fewest e (by omega) w89 m hq90) ?_
                                            refine z_aload_n (pc := 688) (i := 2) (j := 2) dL_law_688 rfl rfl ?_
                                            refine z_aload_n (pc := 689) (i := 0) (j := 0) dL_law_689 rfl rfl ?_
                                            refine z_iload_n (pc := 690) (i := 3) (j := 3) dL_law_690 rfl rfl ?_
                                            refine z_iconst (pc := 691) dL_law_691 ki_1 ?_
                                            refine z_iadd (pc := 692) dL_law_692 ?_
                                            obtain ⟨w91, hw91, hf⟩ := Option.bind_eq_some_iff.mp hf
                                            refine z_oiald (pc := 693) dL_law_693 hw91 ?_
                                            obtain ⟨q92, hq92, hf⟩ := Option.bind_eq_some_iff.mp hf
                                            refine z_oVi (pc := 694) (as := [.int w91]) (rest := [.int q90.1]) dL_law_694 lm_RL_96 mf_X11_fewest mi_X11_fewest mv_X11_fewest rc_41 rfl rfl (Nat.le_of_ble_eq_true rfl) (c_X11_fewest e (by omega) w91 q90.2 hq92) ?_
                                            refine z_icmp_eq (pc := 697) (tgt := 1221) dL_law_697 (by decide) (fun hc => ?_) (fun hc => ?_)
                                            · rw [if_pos hc] at hf
                                              refine z_iinc (pc := 1221) (j := 3) (ls' := [(3, .int (v3 + 6)), (0, .ref 4000), (1, .ref 0), (2, .ref 41)]) dL_law_1221 rfl ki_6 (Nat.le_of_ble_eq_true rfl) rfl ?_
                                              refine z_goto (pc := 1224) (tgt := 18) dL_law_1224 (by decide) ?_
                                              obtain rfl := Option.some.inj hf
                                              exact z_pick (ls' := [(0, .ref 4000), (1, .ref 0), (2, .ref 41), (3, .int (v3 + 6))]) [1, 2, 3, 0] rfl (h1 ((v3 + 6), q92.2) hK)
                                            · rw [if_neg hc] at hf
                                              refine z_iconst (pc := 700) dL_law_700 ki_0 ?_
                                              obtain rfl := Option.some.inj hf
                                              rw [h0 _ hK]
                                              exact z_iret dL_law_701 rfl rfl
                                          · rw [if_neg hs19] at hf
                                            by_cases hs20 : (w2 &&& 63) = 20
                                            · rw [if_pos hs20] at hf
                                              refine z_tabIn (pc := 33) (off := 669) (tgt := 702) dL_law_33 (by rw [hs20]; decide) (by rw [hs20]; decide) (by rw [hs20]; rfl) (by decide) ?_
                                              refine z_aload_n (pc := 702) (i := 1) (j := 1) dL_law_702 rfl rfl ?_
                                              refine z_aload_n (pc := 703) (i := 0) (j := 0) dL_law_703 rfl rfl ?_
                                              refine z_iload_n (pc := 704) (i := 3) (j := 3) dL_law_704 rfl rfl ?_
                                              refine z_iconst (pc := 705) dL_law_705 ki_1 ?_
                                              refine z_iadd (pc := 706) dL_law_706 ?_
                                              obtain ⟨w93, hw93, hf⟩ := Option.bind_eq_some_iff.mp hf
                                              refine z_oiald (pc := 707) dL_law_707 hw93 ?_
                                              refine z_aload_n (pc := 708) (i := 0) (j := 0) dL_law_708 rfl rfl ?_
                                              refine z_iload_n (pc := 709) (i := 3) (j := 3) dL_law_709 rfl rfl ?_
                                              refine z_iconst (pc := 710) dL_law_710 ki_2 ?_
                                              refine z_iadd (pc := 711) dL_law_711 ?_
                                              obtain ⟨w94, hw94, hf⟩ := Option.bind_eq_some_iff.mp hf
                                              refine z_oiald (pc := 712) dL_law_712 hw94 ?_
                                              obtain ⟨q95, hq95, hf⟩ := Option.bind_eq_some_iff.mp hf
                                              refine z_oVi (pc := 713) (as := [.int w93, .int w94]) (rest := []) dL_law_713 lm_RL_97 mf_X10_book mi_X10_book mv_X10_book rc_0 rfl rfl (Nat.le_of_ble_eq_true rfl) (c_X10_book e (by omega) w93 w94 m hq95) ?_
                                              refine z_aload_n (pc := 716) (i := 2) (j := 2) dL_law_716 rfl rfl ?_
                                              refine z_aload_n (pc := 717) (i := 0) (j := 0) dL_law_717 rfl rfl ?_
                                              refine z_iload_n (pc := 718) (i := 3) (j := 3) dL_law_718 rfl rfl ?_
                                              refine z_iconst (pc := 719) dL_law_719 ki_1 ?_
                                              refine z_iadd (pc := 720) dL_law_720 ?_
                                              obtain ⟨w96, hw96, hf⟩ := Option.bind_eq_some_iff.mp hf
                                              refine z_oiald (pc := 721) dL_law_721 hw96 ?_
                                              refine z_aload_n (pc := 722) (i := 0) (j := 0) dL_law_722 rfl rfl ?_
                                              refine z_iload_n (pc := 723) (i := 3) (j := 3) dL_law_723 rfl rfl ?_
                                              refine z_iconst (pc := 724) dL_law_724 ki_2 ?_
                                              refine z_iadd (pc := 725) dL_law_725 ?_
                                              obtain ⟨w97, hw97, hf⟩ := Option.bind_eq_some_iff.mp hf
                                              refine z_oiald (pc := 726) dL_law_726 hw97 ?_
                                              obtain ⟨q98, hq98, hf⟩ := Option.bind_eq_some_iff.mp hf
                                              refine z_oVi (pc := 727) (as := [.int w96, .int w97]) (rest := [.int q95.1]) dL_law_727 lm_RL_100 mf_X11_book mi_X11_book mv_X11_book rc_41 rfl rfl (Nat.le_of_ble_eq_true rfl) (c_X11_book e (by omega) w96 w97 q95.2 hq98) ?_
                                              refine z_icmp_eq (pc := 730) (tgt := 1221) dL_law_730 (by decide) (fun hc => ?_) (fun hc => ?_)
                                              · rw [if_pos hc] at hf
                                                refine z_iinc (pc := 1221) (j := 3) (ls' := [(3, .int (v3 + 6)), (0, .ref 4000), (1, .ref 0), (2, .ref 41)]) dL_law_1221 rfl ki_6 (Nat.le_of_ble_eq_true rfl) rfl ?_
                                                refine z_goto (pc := 1224) (tgt := 18) dL_law_1224 (by decide) ?_
                                                obtain rfl := Option.some.inj hf
                                                exact z_pick (ls' := [(0, .ref 4000), (1, .ref 0), (2, .ref 41), (3, .int (v3 + 6))]) [1, 2, 3, 0] rfl (h1 ((v3 + 6), q98.2) hK)
                                              · rw [if_neg hc] at hf
                                                refine z_iconst (pc := 733) dL_law_733 ki_0 ?_
                                                obtain rfl := Option.some.inj hf
                                                rw [h0 _ hK]
                                                exact z_iret dL_law_734 rfl rfl
                                            · rw [if_neg hs20] at hf
                                              by_cases hs21 : (w2 &&& 63) = 21
                                              · rw [if_pos hs21] at hf
                                                refine z_tabIn (pc := 33) (off := 702) (tgt := 735) dL_law_33 (by rw [hs21]; decide) (by rw [hs21]; decide) (by rw [hs21]; rfl) (by decide) ?_
                                                refine z_aload_n (pc := 735) (i := 1) (j := 1) dL_law_735 rfl rfl ?_
                                                refine z_aload_n (pc := 736) (i := 0) (j := 0) dL_law_736 rfl rfl ?_
                                                refine z_iload_n (pc := 737) (i := 3) (j := 3) dL_law_737 rfl rfl ?_
                                                refine z_iconst (pc := 738) dL_law_738 ki_1 ?_
                                                refine z_iadd (pc := 739) dL_law_739 ?_
                                                obtain ⟨w99, hw99, hf⟩ := Option.bind_eq_some_iff.mp hf
                                                refine z_oiald (pc := 740) dL_law_740 hw99 ?_
                                                refine z_aload_n (pc := 741) (i := 0) (j := 0) dL_law_741 rfl rfl ?_
                                                refine z_iload_n (pc := 742) (i := 3) (j := 3) dL_law_742 rfl rfl ?_
                                                refine z_iconst (pc := 743) dL_law_743 ki_2 ?_
                                                refine z_iadd (pc := 744) dL_law_744 ?_
                                                obtain ⟨w100, hw100, hf⟩ := Option.bind_eq_some_iff.mp hf
                                                refine z_oiald (pc := 745) dL_law_745 hw100 ?_
                                                refine z_aload_n (pc := 746) (i := 0) (j := 0) dL_law_746 rfl rfl ?_
                                                refine z_iload_n (pc := 747) (i := 3) (j := 3) dL_law_747 rfl rfl ?_
                                                refine z_iconst (pc := 748) dL_law_748 ki_3 ?_
                                                refine z_iadd (pc := 749) dL_law_749 ?_
                                                obtain ⟨w101, hw101, hf⟩ := Option.bind_eq_some_iff.mp hf
                                                refine z_oiald (pc := 750) dL_law_750 hw101 ?_
                                                obtain ⟨q102, hq102, hf⟩ := Option.bind_eq_some_iff.mp hf
                                                refine z_oVi (pc := 751) (as := [.int w99, .int w100, .int w101]) (rest := []) dL_law_751 lm_RL_101 mf_X10_mixed mi_X10_mixed mv_X10_mixed rc_0 rfl rfl (Nat.le_of_ble_eq_true rfl) (c_X10_mixed e (by omega) w99 w100 w101 m hq102) ?_
                                                refine z_aload_n (pc := 754) (i := 2) (j := 2) dL_law_754 rfl rfl ?_
                                                refine z_aload_n (pc := 755) (i := 0) (j := 0) dL_law_755 rfl rfl ?_
                                                refine z_iload_n (pc := 756) (i := 3) (j := 3) dL_law_756 rfl rfl ?_
                                                refine z_iconst (pc := 757) dL_law_757 ki_1 ?_
                                                refine z_iadd (pc := 758) dL_law_758 ?_
                                                obtain ⟨w103, hw103, hf⟩ := Option.bind_eq_some_iff.mp hf
                                                refine z_oiald (pc := 759) dL_law_759 hw103 ?_
                                                refine z_aload_n (pc := 760) (i := 0) (j := 0) dL_law_760 rfl rfl ?_
                                                refine z_iload_n (pc := 761) (i := 3) (j := 3) dL_law_761 rfl rfl ?_
                                                refine z_iconst (pc := 762) dL_law_762 ki_2 ?_
                                                refine z_iadd (pc := 763) dL_law_763 ?_
                                                obtain ⟨w104, hw104, hf⟩ := Option.bind_eq_some_iff.mp hf
                                                refine z_oiald (pc := 764) dL_law_764 hw104 ?_
                                                refine z_aload_n (pc := 765) (i := 0) (j := 0) dL_law_765 rfl rfl ?_
                                                refine z_iload_n (pc := 766) (i := 3) (j := 3) dL_law_766 rfl rfl ?_
                                                refine z_iconst (pc := 767) dL_law_767 ki_3 ?_
                                                refine z_iadd (pc := 768) dL_law_768 ?_
                                                obtain ⟨w105, hw105, hf⟩ := Option.bind_eq_some_iff.mp hf
                                                refine z_oiald (pc := 769) dL_law_769 hw105 ?_
                                                obtain ⟨q106, hq106, hf⟩ := Option.bind_eq_some_iff.mp hf
                                                refine z_oVi (pc := 770) (as := [.int w103, .int w104, .int w105]) (rest := [.int q102.1]) dL_law_770 lm_RL_104 mf_X11_mixed mi_X11_mixed mv_X11_mixed rc_41 rfl rfl (Nat.le_of_ble_eq_true rfl) (c_X11_mixed e (by omega) w103 w104 w105 q102.2 hq106) ?_
                                                refine z_icmp_eq (pc := 773) (tgt := 1221) dL_law_773 (by decide) (fun hc => ?_) (fun hc => ?_)
                                                · rw [if_pos hc] at hf
                                                  refine z_iinc (pc := 1221) (j := 3) (ls' := [(3, .int (v3 + 6)), (0, .ref 4000), (1, .ref 0), (2, .ref 41)]) dL_law_1221 rfl ki_6 (Nat.le_of_ble_eq_true rfl) rfl ?_
                                                  refine z_goto (pc := 1224) (tgt := 18) dL_law_1224 (by decide) ?_
                                                  obtain rfl := Option.some.inj hf
                                                  exact z_pick (ls' := [(0, .ref 4000), (1, .ref 0), (2, .ref 41), (3, .int (v3 + 6))]) [1, 2, 3, 0] rfl (h1 ((v3 + 6), q106.2) hK)
                                                · rw [if_neg hc] at hf
                                                  refine z_iconst (pc := 776) dL_law_776 ki_0 ?_
                                                  obtain rfl := Option.some.inj hf
                                                  rw [h0 _ hK]
                                                  exact z_iret dL_law_777 rfl rfl
                                              · rw [if_neg hs21] at hf
                                                by_cases hs22 : (w2 &&& 63) = 22
                                                · rw [if_pos hs22] at hf
                                                  refine z_tabIn (pc := 33) (off := 745) (tgt := 778) dL_law_33 (by rw [hs22]; decide) (by rw [hs22]; decide) (by rw [hs22]; rfl) (by decide) ?_
                                                  refine z_aload_n (pc := 778) (i := 1) (j := 1) dL_law_778 rfl rfl ?_
                                                  obtain ⟨q107, hq107, hf⟩ := Option.bind_eq_some_iff.mp hf
                                                  refine z_oVi (pc := 779) (as := []) (rest := []) dL_law_779 lm_RL_105 mf_X10_image mi_X10_image mv_X10_image rc_0 rfl rfl (Nat.le_of_ble_eq_true rfl) (c_X10_image e (by omega) m hq107) ?_
                                                  refine z_aload_n (pc := 782) (i := 2) (j := 2) dL_law_782 rfl rfl ?_
                                                  obtain ⟨q108, hq108, hf⟩ := Option.bind_eq_some_iff.mp hf
                                                  refine z_oVi (pc := 783) (as := []) (rest := [.int q107.1]) dL_law_783 lm_RL_108 mf_X11_image mi_X11_image mv_X11_image rc_41 rfl rfl (Nat.le_of_ble_eq_true rfl) (c_X11_image e (by omega) q107.2 hq108) ?_
                                                  refine z_icmp_eq (pc := 786) (tgt := 1221) dL_law_786 (by decide) (fun hc => ?_) (fun hc => ?_)
                                                  · rw [if_pos hc] at hf
                                                    refine z_iinc (pc := 1221) (j := 3) (ls' := [(3, .int (v3 + 6)), (0, .ref 4000), (1, .ref 0), (2, .ref 41)]) dL_law_1221 rfl ki_6 (Nat.le_of_ble_eq_true rfl) rfl ?_
                                                    refine z_goto (pc := 1224) (tgt := 18) dL_law_1224 (by decide) ?_
                                                    obtain rfl := Option.some.inj hf
                                                    exact z_pick (ls' := [(0, .ref 4000), (1, .ref 0), (2, .ref 41), (3, .int (v3 + 6))]) [1, 2, 3, 0] rfl (h1 ((v3 + 6), q108.2) hK)
                                                  · rw [if_neg hc] at hf
                                                    refine z_iconst (pc := 789) dL_law_789 ki_0 ?_
                                                    obtain rfl := Option.some.inj hf
                                                    rw [h0 _ hK]
                                                    exact z_iret dL_law_790 rfl rfl
                                                · rw [if_neg hs22] at hf
                                                  by_cases hs23 : (w2 &&& 63) = 23
                                                  · rw [if_pos hs23] at hf
                                                    refine z_tabIn (pc := 33) (off := 758) (tgt := 791) dL_law_33 (by rw [hs23]; decide) (by rw [hs23]; decide) (by rw [hs23]; rfl) (by decide) ?_
                                                    refine z_aload_n (pc := 791) (i := 1) (j := 1) dL_law_791 rfl rfl ?_
                                                    obtain ⟨q109, hq109, hf⟩ := Option.bind_eq_some_iff.mp hf
                                                    refine z_oVi (pc := 792) (as := []) (rest := []) dL_law_792 lm_RL_109 mf_X10_back mi_X10_back mv_X10_back rc_0 rfl rfl (Nat.le_of_ble_eq_true rfl) (c_X10_back e (by omega) m hq109) ?_
                                                    refine z_aload_n (pc := 795) (i := 2) (j := 2) dL_law_795 rfl rfl ?_
                                                    obtain ⟨q110, hq110, hf⟩ := Option.bind_eq_some_iff.mp hf
                                                    refine z_oVi (pc := 796) (as := []) (rest := [.int q109.1]) dL_law_796 lm_RL_112 mf_X11_back mi_X11_back mv_X11_back rc_41 rfl rfl (Nat.le_of_ble_eq_true rfl) (c_X11_back e (by omega) q109.2 hq110) ?_
                                                    refine z_icmp_eq (pc := 799) (tgt := 1221) dL_law_799 (by decide) (fun hc => ?_) (fun hc => ?_)
                                                    · rw [if_pos hc] at hf
                                                      refine z_iinc (pc := 1221) (j := 3) (ls' := [(3, .int (v3 + 6)), (0, .ref 4000), (1, .ref 0), (2, .ref 41)]) dL_law_1221 rfl ki_6 (Nat.le_of_ble_eq_true rfl) rfl ?_
                                                      refine z_goto (pc := 1224) (tgt := 18) dL_law_1224 (by decide) ?_
                                                      obtain rfl := Option.some.inj hf
                                                      exact z_pick (ls' := [(0, .ref 4000), (1, .ref 0), (2, .ref 41), (3, .int (v3 + 6))]) [1, 2, 3, 0] rfl (h1 ((v3 + 6), q110.2) hK)
                                                    · rw [if_neg hc] at hf
                                                      refine z_iconst (pc := 802) dL_law_802 ki_0 ?_
                                                      obtain rfl := Option.some.inj hf
                                                      rw [h0 _ hK]
                                                      exact z_iret dL_law_803 rfl rfl
                                                  · rw [if_neg hs23] at hf
                                                    by_cases hs24 : (w2 &&& 63) = 24
                                                    · rw [if_pos hs24] at hf
                                                      refine z_tabIn (pc := 33) (off := 771) (tgt := 804) dL_law_33 (by rw [hs24]; decide) (by rw [hs24]; decide) (by rw [hs24]; rfl) (by decide) ?_
                                                      refine z_aload_n (pc := 804) (i := 1) (j := 1) dL_law_804 rfl rfl ?_
                                                      obtain ⟨q111, hq111, hf⟩ := Option.bind_eq_some_iff.mp hf
                                                      refine z_oVi (pc := 805) (as := []) (rest := []) dL_law_805 lm_RL_113 mf_X10_undo mi_X10_undo mv_X10_undo rc_0 rfl rfl (Nat.le_of_ble_eq_true rfl) (c_X10_undo e (by omega) m hq111) ?_
                                                      refine z_aload_n (pc := 808) (i := 2) (j := 2) dL_law_808 rfl rfl ?_
                                                      obtain ⟨q112, hq112, hf⟩ := Option.bind_eq_some_iff.mp hf
                                                      refine z_oVi (pc := 809) (as := []) (rest := [.int q111.1]) dL_law_809 lm_RL_116 mf_X11_undo mi_X11_undo mv_X11_undo rc_41 rfl rfl (Nat.le_of_ble_eq_true rfl) (c_X11_undo e (by omega) q111.2 hq112) ?_
                                                      refine z_icmp_eq (pc := 812) (tgt := 1221) dL_law_812 (by decide) (fun hc => ?_) (fun hc => ?_)
                                                      · rw [if_pos hc] at hf
                                                        refine z_iinc (pc := 1221) (j := 3) (ls' := [(3, .int (v3 + 6)), (0, .ref 4000), (1, .ref 0), (2, .ref 41)]) dL_law_1221 rfl ki_6 (Nat.le_of_ble_eq_true rfl) rfl ?_
                                                        refine z_goto (pc := 1224) (tgt := 18) dL_law_1224 (by decide) ?_
                                                        obtain rfl := Option.some.inj hf
                                                        exact z_pick (ls' := [(0, .ref 4000), (1, .ref 0), (2, .ref 41), (3, .int (v3 + 6))]) [1, 2, 3, 0] rfl (h1 ((v3 + 6), q112.2) hK)
                                                      · rw [if_neg hc] at hf
                                                        refine z_iconst (pc := 815) dL_law_815 ki_0 ?_
                                                        obtain rfl := Option.some.inj hf
                                                        rw [h0 _ hK]
                                                        exact z_iret dL_law_816 rfl rfl
                                                    · rw [if_neg hs24] at hf
                                                      by_cases hs25 : (w2 &&& 63) = 25
                                                      · rw [if_pos hs25] at hf
                                                        refine z_tabIn (pc := 33) (off := 784) (tgt := 817) dL_law_33 (by rw [hs25]; decide) (by rw [hs25]; decide) (by rw [hs25]; rfl) (by decide) ?_
                                                        refine z_aload_n (pc := 817) (i := 1) (j := 1) dL_law_817 rfl rfl ?_
                                                        obtain ⟨q113, hq113, hf⟩ := Option.bind_eq_some_iff.mp hf
                                                        refine z_oVi (pc := 818) (as := []) (rest := []) dL_law_818 lm_RL_117 mf_X10_redo mi_X10_redo mv_X10_redo rc_0 rfl rfl (Nat.le_of_ble_eq_true rfl) (c_X10_redo e (by omega) m hq113) ?_
                                                        refine z_aload_n (pc := 821) (i := 2) (j := 2) dL_law_821 rfl rfl ?_
                                                        obtain ⟨q114, hq114, hf⟩ := Option.bind_eq_some_iff.mp hf
                                                        refine z_oVi (pc := 822) (as := []) (rest := [.int q113.1]) dL_law_822 lm_RL_120 mf_X11_redo mi_X11_redo mv_X11_redo rc_41 rfl rfl (Nat.le_of_ble_eq_true rfl) (c_X11_redo e (by omega) q113.2 hq114) ?_
                                                        refine z_icmp_eq (pc := 825) (tgt := 1221) dL_law_825 (by decide) (fun hc => ?_) (fun hc => ?_)
                                                        · rw [if_pos hc] at hf
                                                          refine z_iinc (pc := 1221) (j := 3) (ls' := [(3, .int (v3 + 6)), (0, .ref 4000), (1, .ref 0), (2, .ref 41)]) dL_law_1221 rfl ki_6 (Nat.le_of_ble_eq_true rfl) rfl ?_
                                                          refine z_goto (pc := 1224) (tgt := 18) dL_law_1224 (by decide) ?_
                                                          obtain rfl := Option.some.inj hf
                                                          exact z_pick (ls' := [(0, .ref 4000), (1, .ref 0), (2, .ref 41), (3, .int (v3 + 6))]) [1, 2, 3, 0] rfl (h1 ((v3 + 6), q114.2) hK)
                                                        · rw [if_neg hc] at hf
                                                          refine z_iconst (pc := 828) dL_law_828 ki_0 ?_
                                                          obtain rfl := Option.some.inj hf
                                                          rw [h0 _ hK]
                                                          exact z_iret dL_law_829 rfl rfl
                                                      · rw [if_neg hs25] at hf
                                                        by_cases hs26 : (w2 &&& 63) = 26
                                                        · rw [if_pos hs26] at hf
                                                          refine z_tabIn (pc := 33) (off := 797) (tgt := 830) dL_law_33 (by rw [hs26]; decide) (by rw [hs26]; decide) (by rw [hs26]; rfl) (by decide) ?_
                                                          refine z_aload_n (pc := 830) (i := 1) (j := 1) dL_law_830 rfl rfl ?_
                                                          refine z_aload_n (pc := 831) (i := 0) (j := 0) dL_law_831 rfl rfl ?_
                                                          refine z_iload_n (pc := 832) (i := 3) (j := 3) dL_law_832 rfl rfl ?_
                                                          refine z_iconst (pc := 833) dL_law_833 ki_1 ?_
                                                          refine z_iadd (pc := 834) dL_law_834 ?_
                                                          obtain ⟨w115, hw115, hf⟩ := Option.bind_eq_some_iff.mp hf
                                                          refine z_oiald (pc := 835) dL_law_835 hw115 ?_
                                                          obtain ⟨q116, hq116, hf⟩ := Option.bind_eq_some_iff.mp hf
                                                          refine z_oVi (pc := 836) (as := [.int w115]) (rest := []) dL_law_836 lm_RL_121 mf_X10_body mi_X10_body mv_X10_body rc_0 rfl rfl (Nat.le_of_ble_eq_true rfl) (c_X10_body e (by omega) w115 m hq116) ?_
                                                          refine z_aload_n (pc := 839) (i := 2) (j := 2) dL_law_839 rfl rfl ?_
                                                          refine z_aload_n (pc := 840) (i := 0) (j := 0) dL_law_840 rfl rfl ?_
                                                          refine z_iload_n (pc := 841) (i := 3) (j := 3) dL_law_841 rfl rfl ?_
                                                          refine z_iconst (pc := 842) dL_law_842 ki_1 ?_
                                                          refine z_iadd (pc := 843) dL_law_843 ?_
                                                          obtain ⟨w117, hw117, hf⟩ := Option.bind_eq_some_iff.mp hf
                                                          refine z_oiald (pc := 844) dL_law_844 hw117 ?_
                                                          obtain ⟨q118, hq118, hf⟩ := Option.bind_eq_some_iff.mp hf
                                                          refine z_oVi (pc := 845) (as := [.int w117]) (rest := [.int q116.1]) dL_law_845 lm_RL_124 mf_X11_body mi_X11_body mv_X11_body rc_41 rfl rfl (Nat.le_of_ble_eq_true rfl) (c_X11_body e (by omega) w117 q116.2 hq118) ?_
                                                          refine z_icmp_eq (pc := 848) (tgt := 1221) dL_law_848 (by decide) (fun hc => ?_) (fun hc => ?_)
                                                          · rw [if_pos hc] at hf
                                                            refine z_iinc (pc := 1221) (j := 3) (ls' := [(3, .int (v3 + 6)), (0, .ref 4000), (1, .ref 0), (2, .ref 41)]) dL_law_1221 rfl ki_6 (Nat.le_of_ble_eq_true rfl) rfl ?_
                                                            refine z_goto (pc := 1224) (tgt := 18) dL_law_1224 (by decide) ?_
                                                            obtain rfl := Option.some.inj hf
                                                            exact z_pick (ls' := [(0, .ref 4000), (1, .ref 0), (2, .ref 41), (3, .int (v3 + 6))]) [1, 2, 3, 0] rfl (h1 ((v3 + 6), q118.2) hK)
                                                          · rw [if_neg hc] at hf
                                                            refine z_iconst (pc := 851) dL_law_851 ki_0 ?_
                                                            obtain rfl := Option.some.inj hf
                                                            rw [h0 _ hK]
                                                            exact z_iret dL_law_852 rfl rfl
                                                        · rw [if_neg hs26] at hf
                                                          by_cases hs27 : (w2 &&& 63) = 27
                                                          · rw [if_pos hs27] at hf
                                                            refine z_tabIn (pc := 33) (off := 820) (tgt := 853) dL_law_33 (by rw [hs27]; decide) (by rw [hs27]; decide) (by rw [hs27]; rfl) (by decide) ?_
                                                            refine z_aload_n (pc := 853) (i := 1) (j := 1) dL_law_853 rfl rfl ?_
                                                            refine z_aload_n (pc := 854) (i := 0) (j := 0) dL_law_854 rfl rfl ?_
                                                            refine z_iload_n (pc := 855) (i := 3) (j := 3) dL_law_855 rfl rfl ?_
                                                            refine z_iconst (pc := 856) dL_law_856 ki_1 ?_
                                                            refine z_iadd (pc := 857) dL_law_857 ?_
                                                            obtain ⟨w119, hw119, hf⟩ := Option.bind_eq_some_iff.mp hf
                                                            refine z_oiald (pc := 858) dL_law_858 hw119 ?_
                                                            refine z_aload_n (pc := 859) (i := 0) (j := 0) dL_law_859 rfl rfl ?_
                                                            refine z_iload_n (pc := 860) (i := 3) (j := 3) dL_law_860 rfl rfl ?_
                                                            refine z_iconst (pc := 861) dL_law_861 ki_2 ?_
                                                            refine z_iadd (pc := 862) dL_law_862 ?_
                                                            obtain ⟨w120, hw120, hf⟩ := Option.bind_eq_some_iff.mp hf
                                                            refine z_oiald (pc := 863) dL_law_863 hw120 ?_
                                                            refine z_aload_n (pc := 864) (i := 0) (j := 0) dL_law_864 rfl rfl ?_
                                                            refine z_iload_n (pc := 865) (i := 3) (j := 3) dL_law_865 rfl rfl ?_
                                                            refine z_iconst (pc := 866) dL_law_866 ki_3 ?_
                                                            refine z_iadd (pc := 867) dL_law_867 ?_
                                                            obtain ⟨w121, hw121, hf⟩ := Option.bind_eq_some_iff.mp hf
                                                            refine z_oiald (pc := 868) dL_law_868 hw121 ?_
                                                            obtain ⟨q122, hq122, hf⟩ := Option.bind_eq_some_iff.mp hf
                                                            refine z_oVi (pc := 869) (as := [.int w119, .int w120, .int w121]) (rest := []) dL_law_869 lm_RL_125 mf_X10_act mi_X10_act mv_X10_act rc_0 rfl rfl (Nat.le_of_ble_eq_true rfl) (c_X10_act e (by omega) w119 w120 w121 m hq122) ?_
                                                            refine z_aload_n (pc := 872) (i := 2) (j := 2) dL_law_872 rfl rfl ?_
                                                            refine z_aload_n (pc := 873) (i := 0) (j := 0) dL_law_873 rfl rfl ?_
                                                            refine z_iload_n (pc := 874) (i := 3) (j := 3) dL_law_874 rfl rfl ?_
                                                            refine z_iconst (pc := 875) dL_law_875 ki_1 ?_
                                                            refine z_iadd (pc := 876) dL_law_876 ?_
                                                            obtain ⟨w123, hw123, hf⟩ := Option.bind_eq_some_iff.mp hf
                                                            refine z_oiald (pc := 877) dL_law_877 hw123 ?_
                                                            refine z_aload_n (pc := 878) (i := 0) (j := 0) dL_law_878 rfl rfl ?_
                                                            refine z_iload_n (pc := 879) (i := 3) (j := 3) dL_law_879 rfl rfl ?_
                                                            refine z_iconst (pc := 880) dL_law_880 ki_2 ?_
                                                            refine z_iadd (pc := 881) dL_law_881 ?_
                                                            obtain ⟨w124, hw124, hf⟩ := Option.bind_eq_some_iff.mp hf
                                                            refine z_oiald (pc := 882) dL_law_882 hw124 ?_
                                                            refine z_aload_n (pc := 883) (i := 0) (j := 0) dL_law_883 rfl rfl ?_
                                                            refine z_iload_n (pc := 884) (i := 3) (j := 3) dL_law_884 rfl rfl ?_
                                                            refine z_iconst (pc := 885) dL_law_885 ki_3 ?_
                                                            refine z_iadd (pc := 886) dL_law_886 ?_
                                                            obtain ⟨w125, hw125, hf⟩ := Option.bind_eq_some_iff.mp hf
                                                            refine z_oiald (pc := 887) dL_law_887 hw125 ?_
                                                            obtain ⟨q126, hq126, hf⟩ := Option.bind_eq_some_iff.mp hf
                                                            refine z_oVi (pc := 888) (as := [.int w123, .int w124, .int w125]) (rest := [.int q122.1]) dL_law_888 lm_RL_128 mf_X11_act mi_X11_act mv_X11_act rc_41 rfl rfl (Nat.le_of_ble_eq_true rfl) (c_X11_act e (by omega) w123 w124 w125 q122.2 hq126) ?_
                                                            refine z_icmp_eq (pc := 891) (tgt := 1221) dL_law_891 (by decide) (fun hc => ?_) (fun hc => ?_)
                                                            · rw [if_pos hc] at hf
                                                              refine z_iinc (pc := 1221) (j := 3) (ls' := [(3, .int (v3 + 6)), (0, .ref 4000), (1, .ref 0), (2, .ref 41)]) dL_law_1221 rfl ki_6 (Nat.le_of_ble_eq_true rfl) rfl ?_
                                                              refine z_goto (pc := 1224) (tgt := 18) dL_law_1224 (by decide) ?_
                                                              obtain rfl := Option.some.inj hf
                                                              exact z_pick (ls' := [(0, .ref 4000), (1, .ref 0), (2, .ref 41), (3, .int (v3 + 6))]) [1, 2, 3, 0] rfl (h1 ((v3 + 6), q126.2) hK)
                                                            · rw [if_neg hc] at hf
                                                              refine z_iconst (pc := 894) dL_law_894 ki_0 ?_
                                                              obtain rfl := Option.some.inj hf
                                                              rw [h0 _ hK]
                                                              exact z_iret dL_law_895 rfl rfl
                                                          · rw [if_neg hs27] at hf
                                                            by_cases hs28 : (w2 &&& 63) = 28
                                                            · rw [if_pos hs28] at hf
                                                              refine z_tabIn (pc := 33) (off := 863) (tgt := 896) dL_law_33 (by rw [hs28]; decide) (by rw [hs28]; decide) (by rw [hs28]; rfl) (by decide) ?_
                                                              refine z_aload_n (pc := 896) (i := 1) (j := 1) dL_law_896 rfl rfl ?_
                                                              refine z_aload_n (pc := 897) (i := 0) (j := 0) dL_law_897 rfl rfl ?_
                                                              refine z_iload_n (pc := 898) (i := 3) (j := 3) dL_law_898 rfl rfl ?_
                                                              refine z_iconst (pc := 899) dL_law_899 ki_1 ?_
                                                              refine z_iadd (pc := 900) dL_law_900 ?_
                                                              obtain ⟨w127, hw127, hf⟩ := Option.bind_eq_some_iff.mp hf
                                                              refine z_oiald (pc := 901) dL_law_901 hw127 ?_
                                                              obtain ⟨q128, hq128, hf⟩ := Option.bind_eq_some_iff.mp hf
                                                              refine z_oVi (pc := 902) (as := [.int w127]) (rest := []) dL_law_902 lm_RL_129 mf_X10_trace mi_X10_trace mv_X10_trace rc_0 rfl rfl (Nat.le_of_ble_eq_true rfl) (c_X10_trace e (by omega) w127 m hq128) ?_
                                                              refine z_aload_n (pc := 905) (i := 2) (j := 2) dL_law_905 rfl rfl ?_
                                                              refine z_aload_n (pc := 906) (i := 0) (j := 0) dL_law_906 rfl rfl ?_
                                                              refine z_iload_n (pc := 907) (i := 3) (j := 3) dL_law_907 rfl rfl ?_
                                                              refine z_iconst (pc := 908) dL_law_908 ki_1 ?_
                                                              refine z_iadd (pc := 909) dL_law_909 ?_
                                                              obtain ⟨w129, hw129, hf⟩ := Option.bind_eq_some_iff.mp hf
                                                              refine z_oiald (pc := 910) dL_law_910 hw129 ?_
                                                              obtain ⟨q130, hq130, hf⟩ := Option.bind_eq_some_iff.mp hf
                                                              refine z_oVi (pc := 911) (as := [.int w129]) (rest := [.int q128.1]) dL_law_911 lm_RL_132 mf_X11_trace mi_X11_trace mv_X11_trace rc_41 rfl rfl (Nat.le_of_ble_eq_true rfl) (c_X11_trace e (by omega) w129 q128.2 hq130) ?_
                                                              refine z_icmp_eq (pc := 914) (tgt := 1221) dL_law_914 (by decide) (fun hc => ?_) (fun hc => ?_)
                                                              · rw [if_pos hc] at hf
                                                                refine z_iinc (pc := 1221) (j := 3) (ls' := [(3, .int (v3 + 6)), (0, .ref 4000), (1, .ref 0), (2, .ref 41)]) dL_law_1221 rfl ki_6 (Nat.le_of_ble_eq_true rfl) rfl ?_
                                                                refine z_goto (pc := 1224) (tgt := 18) dL_law_1224 (by decide) ?_
                                                                obtain rfl := Option.some.inj hf
                                                                exact z_pick (ls' := [(0, .ref 4000), (1, .ref 0), (2, .ref 41), (3, .int (v3 + 6))]) [1, 2, 3, 0] rfl (h1 ((v3 + 6), q130.2) hK)
                                                              · rw [if_neg hc] at hf
                                                                refine z_iconst (pc := 917) dL_law_917 ki_0 ?_
                                                                obtain rfl := Option.some.inj hf
                                                                rw [h0 _ hK]
                                                                exact z_iret dL_law_918 rfl rfl
                                                            · rw [if_neg hs28] at hf
                                                              by_cases hs29 : (w2 &&& 63) = 29
                                                              · rw [if_pos hs29] at hf
                                                                refine z_tabIn (pc := 33) (off := 886) (tgt := 919) dL_law_33 (by rw [hs29]; decide) (by rw [hs29]; decide) (by rw [hs29]; rfl) (by decide) ?_
                                                                refine z_aload_n (pc := 919) (i := 1) (j := 1) dL_law_919 rfl rfl ?_
                                                                refine z_aload_n (pc := 920) (i := 0) (j := 0) dL_law_920 rfl rfl ?_
                                                                refine z_iload_n (pc := 921) (i := 3) (j := 3) dL_law_921 rfl rfl ?_
                                                                refine z_iconst (pc := 922) dL_law_922 ki_1 ?_
                                                                refine z_iadd (pc := 923) dL_law_923 ?_
                                                                obtain ⟨w131, hw131, hf⟩ := Option.bind_eq_some_iff.mp hf
                                                                refine z_oiald (pc := 924) dL_law_924 hw131 ?_
                                                                refine z_aload_n (pc := 925) (i := 0) (j := 0) dL_law_925 rfl rfl ?_
                                                                refine z_iload_n (pc := 926) (i := 3) (j := 3) dL_law_926 rfl rfl ?_
                                                                refine z_iconst (pc := 927) dL_law_927 ki_2 ?_
                                                                refine z_iadd (pc := 928) dL_law_928 ?_
                                                                obtain ⟨w132, hw132, hf⟩ := Option.bind_eq_some_iff.mp hf
                                                                refine z_oiald (pc := 929) dL_law_929 hw132 ?_
                                                                obtain ⟨q133, hq133, hf⟩ := Option.bind_eq_some_iff.mp hf
                                                                refine z_oVi (pc := 930) (as := [.int w131, .int w132]) (rest := []) dL_law_930 lm_RL_133 mf_X10_keep mi_X10_keep mv_X10_keep rc_0 rfl rfl (Nat.le_of_ble_eq_true rfl) (c_X10_keep e (by omega) w131 w132 m hq133) ?_
                                                                refine z_aload_n (pc := 933) (i := 2) (j := 2) dL_law_933 rfl rfl ?_
                                                                refine z_aload_n (pc := 934) (i := 0) (j := 0) dL_law_934 rfl rfl ?_
                                                                refine z_iload_n (pc := 935) (i := 3) (j := 3) dL_law_935 rfl rfl ?_
                                                                refine z_iconst (pc := 936) dL_law_936 ki_1 ?_
                                                                refine z_iadd (pc := 937) dL_law_937 ?_
                                                                obtain ⟨w134, hw134, hf⟩ := Option.bind_eq_some_iff.mp hf
                                                                refine z_oiald (pc := 938) dL_law_938 hw134 ?_
                                                                refine z_aload_n (pc := 939) (i := 0) (j := 0) dL_law_939 rfl rfl ?_
                                                                refine z_iload_n (pc := 940) (i := 3) (j := 3) dL_law_940 rfl rfl ?_
                                                                refine z_iconst (pc := 941) dL_law_941 ki_2 ?_
                                                                refine z_iadd (pc := 942) dL_law_942 ?_
                                                                obtain ⟨w135, hw135, hf⟩ := Option.bind_eq_some_iff.mp hf
                                                                refine z_oiald (pc := 943) dL_law_943 hw135 ?_
                                                                obtain ⟨q136, hq136, hf⟩ := Option.bind_eq_some_iff.mp hf
                                                                refine z_oVi (pc := 944) (as := [.int w134, .int w135]) (rest := [.int q133.1]) dL_law_944 lm_RL_136 mf_X11_keep mi_X11_keep mv_X11_keep rc_41 rfl rfl (Nat.le_of_ble_eq_true rfl) (c_X11_keep e (by omega) w134 w135 q133.2 hq136) ?_
                                                                refine z_icmp_eq (pc := 947) (tgt := 1221) dL_law_947 (by decide) (fun hc => ?_) (fun hc => ?_)
                                                                · rw [if_pos hc] at hf
                                                                  refine z_iinc (pc := 1221) (j := 3) (ls' := [(3, .int (v3 + 6)), (0, .ref 4000), (1, .ref 0), (2, .ref 41)]) dL_law_1221 rfl ki_6 (Nat.le_of_ble_eq_true rfl) rfl ?_
                                                                  refine z_goto (pc := 1224) (tgt := 18) dL_law_1224 (by decide) ?_
                                                                  obtain rfl := Option.some.inj hf
                                                                  exact z_pick (ls' := [(0, .ref 4000), (1, .ref 0), (2, .ref 41), (3, .int (v3 + 6))]) [1, 2, 3, 0] rfl (h1 ((v3 + 6), q136.2) hK)
                                                                · rw [if_neg hc] at hf
                                                                  refine z_iconst (pc := 950) dL_law_950 ki_0 ?_
                                                                  obtain rfl := Option.some.inj hf
                                                                  rw [h0 _ hK]
                                                                  exact z_iret dL_law_951 rfl rfl
                                                              · rw [if_neg hs29] at hf
                                                                by_cases hs30 : (w2 &&& 63) = 30
                                                                · rw [if_pos hs30] at hf
                                                                  refine z_tabIn (pc := 33) (off := 919) (tgt := 952) dL_law_33 (by rw [hs30]; decide) (by rw [hs30]; decide) (by rw [hs30]; rfl) (by decide) ?_
                                                                  refine z_aload_n (pc := 952) (i := 1) (j := 1) dL_law_952 rfl rfl ?_
                                                                  refine z_aload_n (pc := 953) (i := 0) (j := 0) dL_law_953 rfl rfl ?_
                                                                  refine z_iload_n (pc := 954) (i := 3) (j := 3) dL_law_954 rfl rfl ?_
                                                                  refine z_iconst (pc := 955) dL_law_955 ki_1 ?_
                                                                  refine z_iadd (pc := 956) dL_law_956 ?_
                                                                  obtain ⟨w137, hw137, hf⟩ := Option.bind_eq_some_iff.mp hf
                                                                  refine z_oiald (pc := 957) dL_law_957 hw137 ?_
                                                                  refine z_aload_n (pc := 958) (i := 0) (j := 0) dL_law_958 rfl rfl ?_
                                                                  refine z_iload_n (pc := 959) (i := 3) (j := 3) dL_law_959 rfl rfl ?_
                                                                  refine z_iconst (pc := 960) dL_law_960 ki_2 ?_
                                                                  refine z_iadd (pc := 961) dL_law_961 ?_
                                                                  obtain ⟨w138, hw138, hf⟩ := Option.bind_eq_some_iff.mp hf
                                                                  refine z_oiald (pc := 962) dL_law_962 hw138 ?_
                                                                  refine z_aload_n (pc := 963) (i := 0) (j := 0) dL_law_963 rfl rfl ?_
                                                                  refine z_iload_n (pc := 964) (i := 3) (j := 3) dL_law_964 rfl rfl ?_
                                                                  refine z_iconst (pc := 965) dL_law_965 ki_3 ?_
                                                                  refine z_iadd (pc := 966) dL_law_966 ?_
                                                                  obtain ⟨w139, hw139, hf⟩ := Option.bind_eq_some_iff.mp hf
                                                                  refine z_oiald (pc := 967) dL_law_967 hw139 ?_
                                                                  obtain ⟨q140, hq140, hf⟩ := Option.bind_eq_some_iff.mp hf
                                                                  refine z_oVi (pc := 968) (as := [.int w137, .int w138, .int w139]) (rest := []) dL_law_968 lm_RL_137 mf_X10_row mi_X10_row mv_X10_row rc_0 rfl rfl (Nat.le_of_ble_eq_true rfl) (c_X10_row e (by omega) w137 w138 w139 m hq140) ?_
                                                                  refine z_aload_n (pc := 971) (i := 2) (j := 2) dL_law_971 rfl rfl ?_
                                                                  refine z_aload_n (pc := 972) (i := 0) (j := 0) dL_law_972 rfl rfl ?_
                                                                  refine z_iload_n (pc := 973) (i := 3) (j := 3) dL_law_973 rfl rfl ?_
                                                                  refine z_iconst (pc := 974) dL_law_974 ki_1 ?_
                                                                  refine z_iadd (pc := 975) dL_law_975 ?_
                                                                  obtain ⟨w141, hw141, hf⟩ := Option.bind_eq_some_iff.mp hf
                                                                  refine z_oiald (pc := 976) dL_law_976 hw141 ?_
                                                                  refine z_aload_n (pc := 977) (i := 0) (j := 0) dL_law_977 rfl rfl ?_
                                                                  refine z_iload_n (pc := 978) (i := 3) (j := 3) dL_law_978 rfl rfl ?_
                                                                  refine z_iconst (pc := 979) dL_law_979 ki_2 ?_
                                                                  refine z_iadd (pc := 980) dL_law_980 ?_
                                                                  obtain ⟨w142, hw142, hf⟩ := Option.bind_eq_some_iff.mp hf
                                                                  refine z_oiald (pc := 981) dL_law_981 hw142 ?_
                                                                  refine z_aload_n (pc := 982) (i := 0) (j := 0) dL_law_982 rfl rfl ?_
                                                                  refine z_iload_n (pc := 983) (i := 3) (j := 3) dL_law_983 rfl rfl ?_
                                                                  refine z_iconst (pc := 984) dL_law_984 ki_3 ?_
                                                                  refine z_iadd (pc := 985) dL_law_985 ?_
                                                                  obtain ⟨w143, hw143, hf⟩ := Option.bind_eq_some_iff.mp hf
                                                                  refine z_oiald (pc := 986) dL_law_986 hw143 ?_
                                                                  obtain ⟨q144, hq144, hf⟩ := Option.bind_eq_some_iff.mp hf
                                                                  refine z_oVi (pc := 987) (as := [.int w141, .int w142, .int w143]) (rest := [.int q140.1]) dL_law_987 lm_RL_140 mf_X11_row mi_X11_row mv_X11_row rc_41 rfl rfl (Nat.le_of_ble_eq_true rfl) (c_X11_row e (by omega) w141 w142 w143 q140.2 hq144) ?_
                                                                  refine z_icmp_eq (pc := 990) (tgt := 1221) dL_law_990 (by decide) (fun hc => ?_) (fun hc => ?_)
                                                                  · rw [if_pos hc] at hf
                                                                    refine z_iinc (pc := 1221) (j := 3) (ls' := [(3, .int (v3 + 6)), (0, .ref 4000), (1, .ref 0), (2, .ref 41)]) dL_law_1221 rfl ki_6 (Nat.le_of_ble_eq_true rfl) rfl ?_
                                                                    refine z_goto (pc := 1224) (tgt := 18) dL_law_1224 (by decide) ?_
                                                                    obtain rfl := Option.some.inj hf
                                                                    exact z_pick (ls' := [(0, .ref 4000), (1, .ref 0), (2, .ref 41), (3, .int (v3 + 6))]) [1, 2, 3, 0] rfl (h1 ((v3 + 6), q144.2) hK)
                                                                  · rw [if_neg hc] at hf
                                                                    refine z_iconst (pc := 993) dL_law_993 ki_0 ?_
                                                                    obtain rfl := Option.some.inj hf
                                                                    rw [h0 _ hK]
                                                                    exact z_iret dL_law_994 rfl rfl
                                                                · rw [if_neg hs30] at hf
                                                                  by_cases hs31 : (w2 &&& 63) = 31
                                                                  · rw [if_pos hs31] at hf
                                                                    refine z_tabIn (pc := 33) (off := 962) (tgt := 995) dL_law_33 (by rw [hs31]; decide) (by rw [hs31]; decide) (by rw [hs31]; rfl) (by decide) ?_
                                                                    refine z_aload_n (pc := 995) (i := 1) (j := 1) dL_law_995 rfl rfl ?_
                                                                    refine z_aload_n (pc := 996) (i := 0) (j := 0) dL_law_996 rfl rfl ?_
                                                                    refine z_iload_n (pc := 997) (i := 3) (j := 3) dL_law_997 rfl rfl ?_
                                                                    refine z_iconst (pc := 998) dL_law_998 ki_1 ?_
                                                                    refine z_iadd (pc := 999) dL_law_999 ?_
                                                                    obtain ⟨w145, hw145, hf⟩ := Option.bind_eq_some_iff.mp hf
                                                                    refine z_oiald (pc := 1000) dL_law_1000 hw145 ?_
                                                                    refine z_aload_n (pc := 1001) (i := 0) (j := 0) dL_law_1001 rfl rfl ?_
                                                                    refine z_iload_n (pc := 1002) (i := 3) (j := 3) dL_law_1002 rfl rfl ?_
                                                                    refine z_iconst (pc := 1003) dL_law_1003 ki_2 ?_
                                                                    refine z_iadd (pc := 1004) dL_law_1004 ?_
                                                                    obtain ⟨w146, hw146, hf⟩ := Option.bind_eq_some_iff.mp hf
                                                                    refine z_oiald (pc := 1005) dL_law_1005 hw146 ?_
                                                                    refine z_aload_n (pc := 1006) (i := 0) (j := 0) dL_law_1006 rfl rfl ?_
                                                                    refine z_iload_n (pc := 1007) (i := 3) (j := 3) dL_law_1007 rfl rfl ?_
                                                                    refine z_iconst (pc := 1008) dL_law_1008 ki_3 ?_
                                                                    refine z_iadd (pc := 1009) dL_law_1009 ?_
                                                                    obtain ⟨w147, hw147, hf⟩ := Option.bind_eq_some_iff.mp hf
                                                                    refine z_oiald (pc := 1010) dL_law_1010 hw147 ?_
                                                                    refine z_i2l (pc := 1011) dL_law_1011 ?_
                                                                    refine z_bipush (pc := 1012) dL_law_1012 kb_32 ?_
                                                                    refine z_lshl (pc := 1014) dL_law_1014 ?_
                                                                    refine z_aload_n (pc := 1015) (i := 0) (j := 0) dL_law_1015 rfl rfl ?_
                                                                    refine z_iload_n (pc := 1016) (i := 3) (j := 3) dL_law_1016 rfl rfl ?_
                                                                    refine z_iconst (pc := 1017) dL_law_1017 ki_4 ?_
                                                                    refine z_iadd (pc := 1018) dL_law_1018 ?_
                                                                    obtain ⟨w148, hw148, hf⟩ := Option.bind_eq_some_iff.mp hf
                                                                    refine z_oiald (pc := 1019) dL_law_1019 hw148 ?_
                                                                    refine z_i2l (pc := 1020) dL_law_1020 ?_
                                                                    refine z_ldc2 (pc := 1021) dL_law_1021 lc_RL_141 ?_
                                                                    refine z_land (pc := 1024) dL_law_1024 ?_
                                                                    refine z_lor (pc := 1025) dL_law_1025 ?_
                                                                    obtain ⟨q149, hq149, hf⟩ := Option.bind_eq_some_iff.mp hf
                                                                    refine z_oVi (pc := 1026) (as := [.int w145, .int w146, .long (((Int32.toInt64 w147) <<< (Int32.toInt64 32 &&& 63)) ||| ((Int32.toInt64 w148) &&& (4294967295 : Int64)))]) (rest := []) dL_law_1026 lm_RL_143 mf_X10_put mi_X10_put mv_X10_put rc_0 rfl rfl (Nat.le_of_ble_eq_true rfl) (c_X10_put e (by omega) w145 w146 (((Int32.toInt64 w147) <<< (Int32.toInt64 32 &&& 63)) ||| ((Int32.toInt64 w148) &&& (4294967295 : Int64))) m hq149) ?_
                                                                    refine z_aload_n (pc := 1029) (i := 2) (j := 2) dL_law_1029 rfl rfl ?_
                                                                    refine z_aload_n (pc := 1030) (i := 0) (j := 0) dL_law_1030 rfl rfl ?_
                                                                    refine z_iload_n (pc := 1031) (i := 3) (j := 3) dL_law_1031 rfl rfl ?_
                                                                    refine z_iconst (pc := 1032) dL_law_1032 ki_1 ?_
                                                                    refine z_iadd (pc := 1033) dL_law_1033 ?_
                                                                    obtain ⟨w150, hw150, hf⟩ := Option.bind_eq_some_iff.mp hf
                                                                    refine z_oiald (pc := 1034) dL_law_1034 hw150 ?_
                                                                    refine z_aload_n (pc := 1035) (i := 0) (j := 0) dL_law_1035 rfl rfl ?_
                                                                    refine z_iload_n (pc := 1036) (i := 3) (j := 3) dL_law_1036 rfl rfl ?_
                                                                    refine z_iconst (pc := 1037) dL_law_1037 ki_2 ?_
                                                                    refine z_iadd (pc := 1038) dL_law_1038 ?_
                                                                    obtain ⟨w151, hw151, hf⟩ := Option.bind_eq_some_iff.mp hf
                                                                    refine z_oiald (pc := 1039) dL_law_1039 hw151 ?_
                                                                    refine z_aload_n (pc := 1040) (i := 0) (j := 0) dL_law_1040 rfl rfl ?_
                                                                    refine z_iload_n (pc := 1041) (i := 3) (j := 3) dL_law_1041 rfl rfl ?_
                                                                    refine z_iconst (pc := 1042) dL_law_1042 ki_3 ?_
                                                                    refine z_iadd (pc := 1043) dL_law_1043 ?_
                                                                    obtain ⟨w152, hw152, hf⟩ := Option.bind_eq_some_iff.mp hf
                                                                    refine z_oiald (pc := 1044) dL_law_1044 hw152 ?_
                                                                    refine z_i2l (pc := 1045) dL_law_1045 ?_
                                                                    refine z_bipush (pc := 1046) dL_law_1046 kb_32 ?_
                                                                    refine z_lshl (pc := 1048) dL_law_1048 ?_
                                                                    refine z_aload_n (pc := 1049) (i := 0) (j := 0) dL_law_1049 rfl rfl ?_
                                                                    refine z_iload_n (pc := 1050) (i := 3) (j := 3) dL_law_1050 rfl rfl ?_
                                                                    refine z_iconst (pc := 1051) dL_law_1051 ki_4 ?_
                                                                    refine z_iadd (pc := 1052) dL_law_1052 ?_
                                                                    obtain ⟨w153, hw153, hf⟩ := Option.bind_eq_some_iff.mp hf
                                                                    refine z_oiald (pc := 1053) dL_law_1053 hw153 ?_
                                                                    refine z_i2l (pc := 1054) dL_law_1054 ?_
                                                                    refine z_ldc2 (pc := 1055) dL_law_1055 lc_RL_141 ?_
                                                                    refine z_land (pc := 1058) dL_law_1058 ?_
                                                                    refine z_lor (pc := 1059) dL_law_1059 ?_
                                                                    obtain ⟨q154, hq154, hf⟩ := Option.bind_eq_some_iff.mp hf
                                                                    refine z_oVi (pc := 1060) (as := [.int w150, .int w151, .long (((Int32.toInt64 w152) <<< (Int32.toInt64 32 &&& 63)) ||| ((Int32.toInt64 w153) &&& (4294967295 : Int64)))]) (rest := [.int q149.1]) dL_law_1060 lm_RL_147 mf_X11_put mi_X11_put mv_X11_put rc_41 rfl rfl (Nat.le_of_ble_eq_true rfl) (c_X11_put e (by omega) w150 w151 (((Int32.toInt64 w152) <<< (Int32.toInt64 32 &&& 63)) ||| ((Int32.toInt64 w153) &&& (4294967295 : Int64))) q149.2 hq154) ?_
                                                                    refine z_icmp_eq (pc := 1063) (tgt := 1221) dL_law_1063 (by decide) (fun hc => ?_) (fun hc => ?_)
                                                                    · rw [if_pos hc] at hf
                                                                      refine z_iinc (pc := 1221) (j := 3) (ls' := [(3, .int (v3 + 6)), (0, .ref 4000), (1, .ref 0), (2, .ref 41)]) dL_law_1221 rfl ki_6 (Nat.le_of_ble_eq_true rfl) rfl ?_
                                                                      refine z_goto (pc := 1224) (tgt := 18) dL_law_1224 (by decide) ?_
                                                                      obtain rfl := Option.some.inj hf
                                                                      exact z_pick (ls' := [(0, .ref 4000), (1, .ref 0), (2, .ref 41), (3, .int (v3 + 6))]) [1, 2, 3, 0] rfl (h1 ((v3 + 6), q154.2) hK)
                                                                    · rw [if_neg hc] at hf
                                                                      refine z_iconst (pc := 1066) dL_law_1066 ki_0 ?_
                                                                      obtain rfl := Option.some.inj hf
                                                                      rw [h0 _ hK]
                                                                      exact z_iret dL_law_1067 rfl rfl
                                                                  · rw [if_neg hs31] at hf
                                                                    by_cases hs32 : (w2 &&& 63) = 32
                                                                    · rw [if_pos hs32] at hf
                                                                      refine z_tabIn (pc := 33) (off := 1035) (tgt := 1068) dL_law_33 (by rw [hs32]; decide) (by rw [hs32]; decide) (by rw [hs32]; rfl) (by decide) ?_
                                                                      refine z_aload_n (pc := 1068) (i := 1) (j := 1) dL_law_1068 rfl rfl ?_
                                                                      refine z_aload_n (pc := 1069) (i := 0) (j := 0) dL_law_1069 rfl rfl ?_
                                                                      refine z_iload_n (pc := 1070) (i := 3) (j := 3) dL_law_1070 rfl rfl ?_
                                                                      refine z_iconst (pc := 1071) dL_law_1071 ki_1 ?_
                                                                      refine z_iadd (pc := 1072) dL_law_1072 ?_
                                                                      obtain ⟨w155, hw155, hf⟩ := Option.bind_eq_some_iff.mp hf
                                                                      refine z_oiald (pc := 1073) dL_law_1073 hw155 ?_
                                                                      refine z_aload_n (pc := 1074) (i := 0) (j := 0) dL_law_1074 rfl rfl ?_
                                                                      refine z_iload_n (pc := 1075) (i := 3) (j := 3) dL_law_1075 rfl rfl ?_
                                                                      refine z_iconst (pc := 1076) dL_law_1076 ki_2 ?_
                                                                      refine z_iadd (pc := 1077) dL_law_1077 ?_
                                                                      obtain ⟨w156, hw156, hf⟩ := Option.bind_eq_some_iff.mp hf
                                                                      refine z_oiald (pc := 1078) dL_law_1078 hw156 ?_
                                                                      obtain ⟨q157, hq157, hf⟩ := Option.bind_eq_some_iff.mp hf
                                                                      refine z_oVl (pc := 1079) (as := [.int w155, .int w156]) (rest := []) dL_law_1079 lm_RL_148 mf_X10_element mi_X10_element mv_X10_element rc_0 rfl rfl (Nat.le_of_ble_eq_true rfl) (c_X10_element e (by omega) w155 w156 m hq157) ?_
                                                                      refine z_aload_n (pc := 1082) (i := 2) (j := 2) dL_law_1082 rfl rfl ?_
                                                                      refine z_aload_n (pc := 1083) (i := 0) (j := 0) dL_law_1083 rfl rfl ?_
                                                                      refine z_iload_n (pc := 1084) (i := 3) (j := 3) dL_law_1084 rfl rfl ?_
                                                                      refine z_iconst (pc := 1085) dL_law_1085 ki_1 ?_
                                                                      refine z_iadd (pc := 1086) dL_law_1086 ?_
                                                                      obtain ⟨w158, hw158, hf⟩ := Option.bind_eq_some_iff.mp hf
                                                                      refine z_oiald (pc := 1087) dL_law_1087 hw158 ?_
                                                                      refine z_aload_n (pc := 1088) (i := 0) (j := 0) dL_law_1088 rfl rfl ?_
                                                                      refine z_iload_n (pc := 1089) (i := 3) (j := 3) dL_law_1089 rfl rfl ?_
                                                                      refine z_iconst (pc := 1090) dL_law_1090 ki_2 ?_
                                                                      refine z_iadd (pc := 1091) dL_law_1091 ?_
                                                                      obtain ⟨w159, hw159, hf⟩ := Option.bind_eq_some_iff.mp hf
                                                                      refine z_oiald (pc := 1092) dL_law_1092 hw159 ?_
                                                                      obtain ⟨q160, hq160, hf⟩ := Option.bind_eq_some_iff.mp hf
                                                                      refine z_oVl (pc := 1093) (as := [.int w158, .int w159]) (rest := [.long q157.1]) dL_law_1093 lm_RL_152 mf_X11_element mi_X11_element mv_X11_element rc_41 rfl rfl (Nat.le_of_ble_eq_true rfl) (c_X11_element e (by omega) w158 w159 q157.2 hq160) ?_
                                                                      refine z_lcmp (pc := 1096) dL_law_1096 ?_
                                                                      refine z_if_eq (pc := 1097) (tgt := 1221) dL_law_1097 (by decide) (fun hc => ?_) (fun hc => ?_)
                                                                      · rw [if_pos hc] at hf
                                                                        refine z_iinc (pc := 1221) (j := 3) (ls' := [(3, .int (v3 + 6)), (0, .ref 4000), (1, .ref 0), (2, .ref 41)]) dL_law_1221 rfl ki_6 (Nat.le_of_ble_eq_true rfl) rfl ?_
                                                                        refine z_goto (pc := 1224) (tgt := 18) dL_law_1224 (by decide) ?_
                                                                        obtain rfl := Option.some.inj hf
                                                                        exact z_pick (ls' := [(0, .ref 4000), (1, .ref 0), (2, .ref 41), (3, .int (v3 + 6))]) [1, 2, 3, 0] rfl (h1 ((v3 + 6), q160.2) hK)
                                                                      · rw [if_neg hc] at hf
                                                                        refine z_iconst (pc := 1100) dL_law_1100 ki_0 ?_
                                                                        obtain rfl := Option.some.inj hf
                                                                        rw [h0 _ hK]
                                                                        exact z_iret dL_law_1101 rfl rfl
                                                                    · rw [if_neg hs32] at hf
                                                                      by_cases hs33 : (w2 &&& 63) = 33
                                                                      · rw [if_pos hs33] at hf
                                                                        refine z_tabIn (pc := 33) (off := 1069) (tgt := 1102) dL_law_33 (by rw [hs33]; decide) (by rw [hs33]; decide) (by rw [hs33]; rfl) (by decide) ?_
                                                                        refine z_aload_n (pc := 1102) (i := 1) (j := 1) dL_law_1102 rfl rfl ?_
                                                                        refine z_aload_n (pc := 1103) (i := 0) (j := 0) dL_law_1103 rfl rfl ?_
                                                                        refine z_iload_n (pc := 1104) (i := 3) (j := 3) dL_law_1104 rfl rfl ?_
                                                                        refine z_iconst (pc := 1105) dL_law_1105 ki_1 ?_
                                                                        refine z_iadd (pc := 1106) dL_law_1106 ?_
                                                                        obtain ⟨w161, hw161, hf⟩ := Option.bind_eq_some_iff.mp hf
                                                                        refine z_oiald (pc := 1107) dL_law_1107 hw161 ?_
                                                                        refine z_aload_n (pc := 1108) (i := 0) (j := 0) dL_law_1108 rfl rfl ?_
                                                                        refine z_iload_n (pc := 1109) (i := 3) (j := 3) dL_law_1109 rfl rfl ?_
                                                                        refine z_iconst (pc := 1110) dL_law_1110 ki_2 ?_
                                                                        refine z_iadd (pc := 1111) dL_law_1111 ?_
                                                                        obtain ⟨w162, hw162, hf⟩ := Option.bind_eq_some_iff.mp hf
                                                                        refine z_oiald (pc := 1112) dL_law_1112 hw162 ?_
                                                                        refine z_aload_n (pc := 1113) (i := 0) (j := 0) dL_law_1113 rfl rfl ?_
                                                                        refine z_iload_n (pc := 1114) (i := 3) (j := 3) dL_law_1114 rfl rfl ?_
                                                                        refine z_iconst (pc := 1115) dL_law_1115 ki_3 ?_
                                                                        refine z_iadd (pc := 1116) dL_law_1116 ?_
                                                                        obtain ⟨w163, hw163, hf⟩ := Option.bind_eq_some_iff.mp hf
                                                                        refine z_oiald (pc := 1117) dL_law_1117 hw163 ?_
                                                                        refine z_aload_n (pc := 1118) (i := 0) (j := 0) dL_law_1118 rfl rfl ?_
                                                                        refine z_iload_n (pc := 1119) (i := 3) (j := 3) dL_law_1119 rfl rfl ?_
                                                                        refine z_iconst (pc := 1120) dL_law_1120 ki_4 ?_
                                                                        refine z_iadd (pc := 1121) dL_law_1121 ?_
                                                                        obtain ⟨w164, hw164, hf⟩ := Option.bind_eq_some_iff.mp hf
                                                                        refine z_oiald (pc := 1122) dL_law_1122 hw164 ?_
                                                                        refine z_aload_n (pc := 1123) (i := 0) (j := 0) dL_law_1123 rfl rfl ?_
                                                                        refine z_iload_n (pc := 1124) (i := 3) (j := 3) dL_law_1124 rfl rfl ?_
                                                                        refine z_iconst (pc := 1125) dL_law_1125 ki_5 ?_
                                                                        refine z_iadd (pc := 1126) dL_law_1126 ?_
                                                                        obtain ⟨w165, hw165, hf⟩ := Option.bind_eq_some_iff.mp hf
                                                                        refine z_oiald (pc := 1127) dL_law_1127 hw165 ?_
                                                                        obtain ⟨q166, hq166, hf⟩ := Option.bind_eq_some_iff.mp hf
                                                                        refine z_oVi (pc := 1128) (as := [.int w161, .int w162, .int w163, .int w164, .int w165]) (rest := []) dL_law_1128 lm_RL_153 mf_X10_shift mi_X10_shift mv_X10_shift rc_0 rfl rfl (Nat.le_of_ble_eq_true rfl) (c_X10_shift e (by omega) w161 w162 w163 w164 w165 m hq166) ?_
                                                                        refine z_aload_n (pc := 1131) (i := 2) (j := 2) dL_law_1131 rfl rfl ?_
                                                                        refine z_aload_n (pc := 1132) (i := 0) (j := 0) dL_law_1132 rfl rfl ?_
                                                                        refine z_iload_n (pc := 1133) (i := 3) (j := 3) dL_law_1133 rfl rfl ?_
                                                                        refine z_iconst (pc := 1134) dL_law_1134 ki_1 ?_
                                                                        refine z_iadd (pc := 1135) dL_law_1135 ?_
                                                                        obtain ⟨w167, hw167, hf⟩ := Option.bind_eq_some_iff.mp hf
                                                                        refine z_oiald (pc := 1136) dL_law_1136 hw167 ?_
                                                                        refine z_aload_n (pc := 1137) (i := 0) (j := 0) dL_law_1137 rfl rfl ?_
                                                                        refine z_iload_n (pc := 1138) (i := 3) (j := 3) dL_law_1138 rfl rfl ?_
                                                                        refine z_iconst (pc := 1139) dL_law_1139 ki_2 ?_
                                                                        refine z_iadd (pc := 1140) dL_law_1140 ?_
                                                                        obtain ⟨w168, hw168, hf⟩ := Option.bind_eq_some_iff.mp hf
                                                                        refine z_oiald (pc := 1141) dL_law_1141 hw168 ?_
                                                                        refine z_aload_n (pc := 1142) (i := 0) (j := 0) dL_law_1142 rfl rfl ?_
                                                                        refine z_iload_n (pc := 1143) (i := 3) (j := 3) dL_law_1143 rfl rfl ?_
                                                                        refine z_iconst (pc := 1144) dL_law_1144 ki_3 ?_
                                                                        refine z_iadd (pc := 1145) dL_law_1145 ?_
                                                                        obtain ⟨w169, hw169, hf⟩ := Option.bind_eq_some_iff.mp hf
                                                                        refine z_oiald (pc := 1146) dL_law_1146 hw169 ?_
                                                                        refine z_aload_n (pc := 1147) (i := 0) (j := 0) dL_law_1147 rfl rfl ?_
                                                                        refine z_iload_n (pc := 1148) (i := 3) (j := 3) dL_law_1148 rfl rfl ?_
                                                                        refine z_iconst (pc := 1149) dL_law_1149 ki_4 ?_
                                                                        refine z_iadd (pc := 1150) dL_law_1150 ?_
                                                                        obtain ⟨w170, hw170, hf⟩ := Option.bind_eq_some_iff.mp hf
                                                                        refine z_oiald (pc := 1151) dL_law_1151 hw170 ?_
                                                                        refine z_aload_n (pc := 1152) (i := 0) (j := 0) dL_law_1152 rfl rfl ?_
                                                                        refine z_iload_n (pc := 1153) (i := 3) (j := 3) dL_law_1153 rfl rfl ?_
                                                                        refine z_iconst (pc := 1154) dL_law_1154 ki_5 ?_
                                                                        refine z_iadd (pc := 1155) dL_law_1155 ?_
                                                                        obtain ⟨w171, hw171, hf⟩ := Option.bind_eq_some_iff.mp hf
                                                                        refine z_oiald (pc := 1156) dL_law_1156 hw171 ?_
                                                                        obtain ⟨q172, hq172, hf⟩ := Option.bind_eq_some_iff.mp hf
                                                                        refine z_oVi (pc := 1157) (as := [.int w167, .int w168, .int w169, .int w170, .int w171]) (rest := [.int q166.1]) dL_law_1157 lm_RL_157 mf_X11_shift mi_X11_shift mv_X11_shift rc_41 rfl rfl (Nat.le_of_ble_eq_true rfl) (c_X11_shift e (by omega) w167 w168 w169 w170 w171 q166.2 hq172) ?_
                                                                        refine z_icmp_eq (pc := 1160) (tgt := 1221) dL_law_1160 (by decide) (fun hc => ?_) (fun hc => ?_)
                                                                        · rw [if_pos hc] at hf
                                                                          refine z_iinc (pc := 1221) (j := 3) (ls' := [(3, .int (v3 + 6)), (0, .ref 4000), (1, .ref 0), (2, .ref 41)]) dL_law_1221 rfl ki_6 (Nat.le_of_ble_eq_true rfl) rfl ?_
                                                                          refine z_goto (pc := 1224) (tgt := 18) dL_law_1224 (by decide) ?_
                                                                          obtain rfl := Option.some.inj hf
                                                                          exact z_pick (ls' := [(0, .ref 4000), (1, .ref 0), (2, .ref 41), (3, .int (v3 + 6))]) [1, 2, 3, 0] rfl (h1 ((v3 + 6), q172.2) hK)
                                                                        · rw [if_neg hc] at hf
                                                                          refine z_iconst (pc := 1163) dL_law_1163 ki_0 ?_
                                                                          obtain rfl := Option.some.inj hf
                                                                          rw [h0 _ hK]
                                                                          exact z_iret dL_law_1164 rfl rfl
                                                                      · rw [if_neg hs33] at hf
                                                                        by_cases hs34 : (w2 &&& 63) = 34
                                                                        · rw [if_pos hs34] at hf
                                                                          refine z_tabIn (pc := 33) (off := 1132) (tgt := 1165) dL_law_33 (by rw [hs34]; decide) (by rw [hs34]; decide) (by rw [hs34]; rfl) (by decide) ?_
                                                                          refine z_aload_n (pc := 1165) (i := 1) (j := 1) dL_law_1165 rfl rfl ?_
                                                                          refine z_aload_n (pc := 1166) (i := 0) (j := 0) dL_law_1166 rfl rfl ?_
                                                                          refine z_iload_n (pc := 1167) (i := 3) (j := 3) dL_law_1167 rfl rfl ?_
                                                                          refine z_iconst (pc := 1168) dL_law_1168 ki_1 ?_
                                                                          refine z_iadd (pc := 1169) dL_law_1169 ?_
                                                                          obtain ⟨w173, hw173, hf⟩ := Option.bind_eq_some_iff.mp hf
                                                                          refine z_oiald (pc := 1170) dL_law_1170 hw173 ?_
                                                                          refine z_aload_n (pc := 1171) (i := 0) (j := 0) dL_law_1171 rfl rfl ?_
                                                                          refine z_iload_n (pc := 1172) (i := 3) (j := 3) dL_law_1172 rfl rfl ?_
                                                                          refine z_iconst (pc := 1173) dL_law_1173 ki_2 ?_
                                                                          refine z_iadd (pc := 1174) dL_law_1174 ?_
                                                                          obtain ⟨w174, hw174, hf⟩ := Option.bind_eq_some_iff.mp hf
                                                                          refine z_oiald (pc := 1175) dL_law_1175 hw174 ?_
                                                                          obtain ⟨q175, hq175, hf⟩ := Option.bind_eq_some_iff.mp hf
                                                                          refine z_oVi (pc := 1176) (as := [.int w173, .int w174]) (rest := []) dL_law_1176 lm_RL_158 mf_X10_taken mi_X10_taken mv_X10_taken rc_0 rfl rfl (Nat.le_of_ble_eq_true rfl) (c_X10_taken e (by omega) w173 w174 m hq175) ?_
                                                                          refine z_aload_n (pc := 1179) (i := 2) (j := 2) dL_law_1179 rfl rfl ?_
                                                                          refine z_aload_n (pc := 1180) (i := 0) (j := 0) dL_law_1180 rfl rfl ?_
                                                                          refine z_iload_n (pc := 1181) (i := 3) (j := 3) dL_law_1181 rfl rfl ?_
                                                                          refine z_iconst (pc := 1182) dL_law_1182 ki_1 ?_
                                                                          refine z_iadd (pc := 1183) dL_law_1183 ?_
                                                                          obtain ⟨w176, hw176, hf⟩ := Option.bind_eq_some_iff.mp hf
                                                                          refine z_oiald (pc := 1184) dL_law_1184 hw176 ?_
                                                                          refine z_aload_n (pc := 1185) (i := 0) (j := 0) dL_law_1185 rfl rfl ?_
                                                                          refine z_iload_n (pc := 1186) (i := 3) (j := 3) dL_law_1186 rfl rfl ?_
                                                                          refine z_iconst (pc := 1187) dL_law_1187 ki_2 ?_
                                                                          refine z_iadd (pc := 1188) dL_law_1188 ?_
                                                                          obtain ⟨w177, hw177, hf⟩ := Option.bind_eq_some_iff.mp hf
                                                                          refine z_oiald (pc := 1189) dL_law_1189 hw177 ?_
                                                                          obtain ⟨q178, hq178, hf⟩ := Option.bind_eq_some_iff.mp hf
                                                                          refine z_oVi (pc := 1190) (as := [.int w176, .int w177]) (rest := [.int q175.1]) dL_law_1190 lm_RL_161 mf_X11_taken mi_X11_taken mv_X11_taken rc_41 rfl rfl (Nat.le_of_ble_eq_true rfl) (c_X11_taken e (by omega) w176 w177 q175.2 hq178) ?_
                                                                          refine z_icmp_eq (pc := 1193) (tgt := 1221) dL_law_1193 (by decide) (fun hc => ?_) (fun hc => ?_)
                                                                          · rw [if_pos hc] at hf
                                                                            refine z_iinc (pc := 1221) (j := 3) (ls' := [(3, .int (v3 + 6)), (0, .ref 4000), (1, .ref 0), (2, .ref 41)]) dL_law_1221 rfl ki_6 (Nat.le_of_ble_eq_true rfl) rfl ?_
                                                                            refine z_goto (pc := 1224) (tgt := 18) dL_law_1224 (by decide) ?_
                                                                            obtain rfl := Option.some.inj hf
                                                                            exact z_pick (ls' := [(0, .ref 4000), (1, .ref 0), (2, .ref 41), (3, .int (v3 + 6))]) [1, 2, 3, 0] rfl (h1 ((v3 + 6), q178.2) hK)
                                                                          · rw [if_neg hc] at hf
                                                                            refine z_iconst (pc := 1196) dL_law_1196 ki_0 ?_
                                                                            obtain rfl := Option.some.inj hf
                                                                            rw [h0 _ hK]
                                                                            exact z_iret dL_law_1197 rfl rfl
                                                                        · rw [if_neg hs34] at hf
                                                                          by_cases hs35 : (w2 &&& 63) = 35
                                                                          · rw [if_pos hs35] at hf
                                                                            refine z_tabIn (pc := 33) (off := 1165) (tgt := 1198) dL_law_33 (by rw [hs35]; decide) (by rw [hs35]; decide) (by rw [hs35]; rfl) (by decide) ?_
                                                                            refine z_aload_n (pc := 1198) (i := 1) (j := 1) dL_law_1198 rfl rfl ?_
                                                                            refine z_aload_n (pc := 1199) (i := 0) (j := 0) dL_law_1199 rfl rfl ?_
                                                                            refine z_iload_n (pc := 1200) (i := 3) (j := 3) dL_law_1200 rfl rfl ?_
                                                                            refine z_iconst (pc := 1201) dL_law_1201 ki_1 ?_
                                                                            refine z_iadd (pc := 1202) dL_law_1202 ?_
                                                                            obtain ⟨w179, hw179, hf⟩ := Option.bind_eq_some_iff.mp hf
                                                                            refine z_oiald (pc := 1203) dL_law_1203 hw179 ?_
                                                                            obtain ⟨q180, hq180, hf⟩ := Option.bind_eq_some_iff.mp hf
                                                                            refine z_oVi (pc := 1204) (as := [.int w179]) (rest := []) dL_law_1204 lm_RL_162 mf_X10_count mi_X10_count mv_X10_count rc_0 rfl rfl (Nat.le_of_ble_eq_true rfl) (c_X10_count e (by omega) w179 m hq180) ?_
                                                                            refine z_aload_n (pc := 1207) (i := 2) (j := 2) dL_law_1207 rfl rfl ?_
                                                                            refine z_aload_n (pc := 1208) (i := 0) (j := 0) dL_law_1208 rfl rfl ?_
                                                                            refine z_iload_n (pc := 1209) (i := 3) (j := 3) dL_law_1209 rfl rfl ?_
                                                                            refine z_iconst (pc := 1210) dL_law_1210 ki_1 ?_
                                                                            refine z_iadd (pc := 1211) dL_law_1211 ?_
                                                                            obtain ⟨w181, hw181, hf⟩ := Option.bind_eq_some_iff.mp hf
                                                                            refine z_oiald (pc := 1212) dL_law_1212 hw181 ?_
                                                                            obtain ⟨q182, hq182, hf⟩ := Option.bind_eq_some_iff.mp hf
                                                                            refine z_oVi (pc := 1213) (as := [.int w181]) (rest := [.int q180.1]) dL_law_1213 lm_RL_165 mf_X11_count mi_X11_count mv_X11_count rc_41 rfl rfl (Nat.le_of_ble_eq_true rfl) (c_X11_count e (by omega) w181 q180.2 hq182) ?_
                                                                            refine z_icmp_eq (pc := 1216) (tgt := 1221) dL_law_1216 (by decide) (fun hc => ?_) (fun hc => ?_)
                                                                            · rw [if_pos hc] at hf
                                                                              refine z_iinc (pc := 1221) (j := 3) (ls' := [(3, .int (v3 + 6)), (0, .ref 4000), (1, .ref 0), (2, .ref 41)]) dL_law_1221 rfl ki_6 (Nat.le_of_ble_eq_true rfl) rfl ?_
                                                                              refine z_goto (pc := 1224) (tgt := 18) dL_law_1224 (by decide) ?_
                                                                              obtain rfl := Option.some.inj hf
                                                                              exact z_pick (ls' := [(0, .ref 4000), (1, .ref 0), (2, .ref 41), (3, .int (v3 + 6))]) [1, 2, 3, 0] rfl (h1 ((v3 + 6), q182.2) hK)
                                                                            · rw [if_neg hc] at hf
                                                                              refine z_iconst (pc := 1219) dL_law_1219 ki_0 ?_
                                                                              obtain rfl := Option.some.inj hf
                                                                              rw [h0 _ hK]
                                                                              exact z_iret dL_law_1220 rfl rfl
                                                                          · rw [if_neg hs35] at hf
                                                                            refine z_tabD (pc := 33) (tgt := 1221) dL_law_33 (by decide) (fun k hk => ?_) (by decide) ?_
                                                                            · have hk9 : k = 0 ∨ k = 1 ∨ k = 2 ∨ k = 3 ∨ k = 4 ∨ k = 5 ∨ k = 6 ∨ k = 7 ∨ k = 8 ∨ k = 9 ∨ k = 10 ∨ k = 11 ∨ k = 12 ∨ k = 13 ∨ k = 14 ∨ k = 15 ∨ k = 16 ∨ k = 17 ∨ k = 18 ∨ k = 19 ∨ k = 20 ∨ k = 21 ∨ k = 22 ∨ k = 23 ∨ k = 24 ∨ k = 25 ∨ k = 26 ∨ k = 27 ∨ k = 28 ∨ k = 29 ∨ k = 30 ∨ k = 31 ∨ k = 32 ∨ k = 33 ∨ k = 34 ∨ k = 35 := by have hk8 : k < 36 := hk; omega
                                                                              rcases hk9 with rfl | rfl | rfl | rfl | rfl | rfl | rfl | rfl | rfl | rfl | rfl | rfl | rfl | rfl | rfl | rfl | rfl | rfl | rfl | rfl | rfl | rfl | rfl | rfl | rfl | rfl | rfl | rfl | rfl | rfl | rfl | rfl | rfl | rfl | rfl | rfl
                                                                              · exact Or.inr (by have := lv_neT hs0 (show (0 : Int32).toInt = 0 by decide); omega)
                                                                              · exact Or.inr (by have := lv_neT hs1 (show (1 : Int32).toInt = 1 by decide); omega)
                                                                              · exact Or.inr (by have := lv_neT hs2 (show (2 : Int32).toInt = 2 by decide); omega)
                                                                              · exact Or.inr (by have := lv_neT hs3 (show (3 : Int32).toInt = 3 by decide); omega)
                                                                              · exact Or.inr (by have := lv_neT hs4 (show (4 : Int32).toInt = 4 by decide); omega)
                                                                              · exact Or.inr (by have := lv_neT hs5 (show (5 : Int32).toInt = 5 by decide); omega)
                                                                              · exact Or.inr (by have := lv_neT hs6 (show (6 : Int32).toInt = 6 by decide); omega)
                                                                              · exact Or.inr (by have := lv_neT hs7 (show (7 : Int32).toInt = 7 by decide); omega)
                                                                              · exact Or.inr (by have := lv_neT hs8 (show (8 : Int32).toInt = 8 by decide); omega)
                                                                              · exact Or.inr (by have := lv_neT hs9 (show (9 : Int32).toInt = 9 by decide); omega)
                                                                              · exact Or.inr (by have := lv_neT hs10 (show (10 : Int32).toInt = 10 by decide); omega)
                                                                              · exact Or.inr (by have := lv_neT hs11 (show (11 : Int32).toInt = 11 by decide); omega)
                                                                              · exact Or.inr (by have := lv_neT hs12 (show (12 : Int32).toInt = 12 by decide); omega)
                                                                              · exact Or.inr (by have := lv_neT hs13 (show (13 : Int32).toInt = 13 by decide); omega)
                                                                              · exact Or.inr (by have := lv_neT hs14 (show (14 : Int32).toInt = 14 by decide); omega)
                                                                              · exact Or.inr (by have := lv_neT hs15 (show (15 : Int32).toInt = 15 by decide); omega)
                                                                              · exact Or.inr (by have := lv_neT hs16 (show (16 : Int32).toInt = 16 by decide); omega)
                                                                              · exact Or.inr (by have := lv_neT hs17 (show (17 : Int32).toInt = 17 by decide); omega)
                                                                              · exact Or.inr (by have := lv_neT hs18 (show (18 : Int32).toInt = 18 by decide); omega)
                                                                              · exact Or.inr (by have := lv_neT hs19 (show (19 : Int32).toInt = 19 by decide); omega)
                                                                              · exact Or.inr (by have := lv_neT hs20 (show (20 : Int32).toInt = 20 by decide); omega)
                                                                              · exact Or.inr (by have := lv_neT hs21 (show (21 : Int32).toInt = 21 by decide); omega)
                                                                              · exact Or.inr (by have := lv_neT hs22 (show (22 : Int32).toInt = 22 by decide); omega)
                                                                              · exact Or.inr (by have := lv_neT hs23 (show (23 : Int32).toInt = 23 by decide); omega)
                                                                              · exact Or.inr (by have := lv_neT hs24 (show (24 : Int32).toInt = 24 by decide); omega)
                                                                              · exact Or.inr (by have := lv_neT hs25 (show (25 : Int32).toInt = 25 by decide); omega)
                                                                              · exact Or.inr (by have := lv_neT hs26 (show (26 : Int32).toInt = 26 by decide); omega)
                                                                              · exact Or.inr (by have := lv_neT hs27 (show (27 : Int32).toInt = 27 by decide); omega)
                                                                              · exact Or.inr (by have := lv_neT hs28 (show (28 : Int32).toInt = 28 by decide); omega)
                                                                              · exact Or.inr (by have := lv_neT hs29 (show (29 : Int32).toInt = 29 by decide); omega)
                                                                              · exact Or.inr (by have := lv_neT hs30 (show (30 : Int32).toInt = 30 by decide); omega)
                                                                              · exact Or.inr (by have := lv_neT hs31 (show (31 : Int32).toInt = 31 by decide); omega)
                                                                              · exact Or.inr (by have := lv_neT hs32 (show (32 : Int32).toInt = 32 by decide); omega)
                                                                              · exact Or.inr (by have := lv_neT hs33 (show (33 : Int32).toInt = 33 by decide); omega)
                                                                              · exact Or.inr (by have := lv_neT hs34 (show (34 : Int32).toInt = 34 by decide); omega)
                                                                              · exact Or.inr (by have := lv_neT hs35 (show (35 : Int32).toInt = 35 by decide); omega)
                                                                            refine z_iinc (pc := 1221) (j := 3) (ls' := [(3, .int (v3 + 6)), (0, .ref 4000), (1, .ref 0), (2, .ref 41)]) dL_law_1221 rfl ki_6 (Nat.le_of_ble_eq_true rfl) rfl ?_
                                                                            refine z_goto (pc := 1224) (tgt := 18) dL_law_1224 (by decide) ?_
                                                                            obtain rfl := Option.some.inj hf
                                                                            exact z_pick (ls' := [(0, .ref 4000), (1, .ref 0), (2, .ref 41), (3, .int (v3 + 6))]) [1, 2, 3, 0] rfl (h1 ((v3 + 6), m) hK)
def f_L_law_L18 (v3 : Int32) (m : ej_M) : Option (Int32 × ej_M) := oj_loop (fun q : (Int32 × ej_M) => f_L_law_L18b q.1 q.2) oj_FU (v3, m)
set_option maxHeartbeats 4000000 in
set_option maxRecDepth 100000 in
theorem b_L_law_L18 (e : Nat) (hd : 128 ≤ e) (v3 : Int32) (m : ej_M) {x : (Int32 × ej_M)} {res : Option Value × ej_H} {K : (Int32 × ej_M) → Prop} (hf : f_L_law_L18 v3 m = some x) (hK : K x) (h0 : ∀ q : (Int32 × ej_M), K q → res = (some (Value.int q.1), (ej_sh, q.2))) : ej_Z cL_law 4 (some .boolean) RL "law" (e + 1) 18 [(0, .ref 4000), (1, .ref 0), (2, .ref 41), (3, .int v3)] [] (ej_sh, m) res :=
  oj_loop_Z (body := fun q : (Int32 × ej_M) => f_L_law_L18b q.1 q.2) (P := fun q : (Int32 × ej_M) => ej_Z cL_law 4 (some .boolean) RL "law" (e + 1) 18 [(0, .ref 4000), (1, .ref 0), (2, .ref 41), (3, .int q.1)] [] (ej_sh, q.2) res) (K := K) (fun s x hb hl hr => b_L_law_L18b e hd  s.1 s.2 (K := fun x => (∀ s' : (Int32 × ej_M), x = Sum.inl s' → ej_Z cL_law 4 (some .boolean) RL "law" (e + 1) 18 [(0, .ref 4000), (1, .ref 0), (2, .ref 41), (3, .int s'.1)] [] (ej_sh, s'.2) res) ∧ ∀ e, x = Sum.inr e → K e) hb ⟨hl, hr⟩ (fun q hq => hq.1 q rfl) (fun q hq => h0 q (hq.2 _ rfl))) oj_FU (v3, m) x hf hK
