def mL_law : MD := ((11, 280), RL, cL_law, 4, some .boolean, yL_law)
def f_L_law_L18 (xL : Nat) (xs : Nat → Int32)   (Q : Int32 → HP → Prop) : Nat → Int32 → HP → Prop
  | 0, _, _ => False
  | n + 1, x3, h =>
    (((((Int32.ofNat xL) - 6) < x3) →
      Q 1 h) ∧
     (¬ (((Int32.ofNat xL) - 6) < x3) →
      vp_in x3 xL ∧
      (((((xs (ix x3)) &&& 63) = 0) →
        vp_in (x3 + 1) xL ∧
        vp_in (x3 + 2) xL ∧
        f_X7_station (xs (ix (x3 + 1))) (xs (ix (x3 + 2))) h (fun v7 h6 =>
        vp_in (x3 + 1) xL ∧
        vp_in (x3 + 2) xL ∧
        f_X8_station (xs (ix (x3 + 1))) (xs (ix (x3 + 2))) h6 (fun v11 h10 =>
        (((v7 = v11) →
          ∀ x3_13 : Int32, x3_13 = (x3 + 6) →
          f_L_law_L18 xL xs Q n x3_13 h10) ∧
         (¬ (v7 = v11) →
          Q 0 h10))))) ∧
       (¬ (((xs (ix x3)) &&& 63) = 0) →
        (((((xs (ix x3)) &&& 63) = 1) →
          vp_in (x3 + 1) xL ∧
          vp_in (x3 + 2) xL ∧
          vp_in (x3 + 3) xL ∧
          vp_in (x3 + 4) xL ∧
          vp_in (x3 + 5) xL ∧
          f_X7_line (xs (ix (x3 + 1))) (xs (ix (x3 + 2))) (xs (ix (x3 + 3))) (xs (ix (x3 + 4))) (xs (ix (x3 + 5))) h (fun v21 h20 =>
          vp_in (x3 + 1) xL ∧
          vp_in (x3 + 2) xL ∧
          vp_in (x3 + 3) xL ∧
          vp_in (x3 + 4) xL ∧
          vp_in (x3 + 5) xL ∧
          f_X8_line (xs (ix (x3 + 1))) (xs (ix (x3 + 2))) (xs (ix (x3 + 3))) (xs (ix (x3 + 4))) (xs (ix (x3 + 5))) h20 (fun v28 h27 =>
          (((v21 = v28) →
            ∀ x3_30 : Int32, x3_30 = (x3 + 6) →
            f_L_law_L18 xL xs Q n x3_30 h27) ∧
           (¬ (v21 = v28) →
            Q 0 h27))))) ∧
         (¬ (((xs (ix x3)) &&& 63) = 1) →
          (((((xs (ix x3)) &&& 63) = 2) →
            vp_in (x3 + 1) xL ∧
            vp_in (x3 + 2) xL ∧
            f_X7_of (xs (ix (x3 + 1))) (xs (ix (x3 + 2))) h (fun v35 h34 =>
            vp_in (x3 + 1) xL ∧
            vp_in (x3 + 2) xL ∧
            f_X8_of (xs (ix (x3 + 1))) (xs (ix (x3 + 2))) h34 (fun v39 h38 =>
            (((v35 = v39) →
              ∀ x3_41 : Int32, x3_41 = (x3 + 6) →
              f_L_law_L18 xL xs Q n x3_41 h38) ∧
             (¬ (v35 = v39) →
              Q 0 h38))))) ∧
           (¬ (((xs (ix x3)) &&& 63) = 2) →
            (((((xs (ix x3)) &&& 63) = 3) →
              vp_in (x3 + 1) xL ∧
              vp_in (x3 + 2) xL ∧
              f_X7_its (xs (ix (x3 + 1))) (xs (ix (x3 + 2))) h (fun v46 h45 =>
              vp_in (x3 + 1) xL ∧
              vp_in (x3 + 2) xL ∧
              f_X8_its (xs (ix (x3 + 1))) (xs (ix (x3 + 2))) h45 (fun v50 h49 =>
              (((v46 = v50) →
                ∀ x3_52 : Int32, x3_52 = (x3 + 6) →
                f_L_law_L18 xL xs Q n x3_52 h49) ∧
               (¬ (v46 = v50) →
                Q 0 h49))))) ∧
             (¬ (((xs (ix x3)) &&& 63) = 3) →
              (((((xs (ix x3)) &&& 63) = 4) →
                vp_in (x3 + 1) xL ∧
                vp_in (x3 + 2) xL ∧
                vp_in (x3 + 3) xL ∧
                f_X7_set (xs (ix (x3 + 1))) (xs (ix (x3 + 2))) (xs (ix (x3 + 3))) h (fun v58 h57 =>
                vp_in (x3 + 1) xL ∧
                vp_in (x3 + 2) xL ∧
                vp_in (x3 + 3) xL ∧
                f_X8_set (xs (ix (x3 + 1))) (xs (ix (x3 + 2))) (xs (ix (x3 + 3))) h57 (fun v63 h62 =>
                (((v58 = v63) →
                  ∀ x3_65 : Int32, x3_65 = (x3 + 6) →
                  f_L_law_L18 xL xs Q n x3_65 h62) ∧
                 (¬ (v58 = v63) →
                  Q 0 h62))))) ∧
               (¬ (((xs (ix x3)) &&& 63) = 4) →
                (((((xs (ix x3)) &&& 63) = 5) →
                  vp_in (x3 + 1) xL ∧
                  vp_in (x3 + 2) xL ∧
                  vp_in (x3 + 3) xL ∧
                  f_X7_change (xs (ix (x3 + 1))) (xs (ix (x3 + 2))) (xs (ix (x3 + 3))) h (fun v71 h70 =>
                  vp_in (x3 + 1) xL ∧
                  vp_in (x3 + 2) xL ∧
                  vp_in (x3 + 3) xL ∧
                  f_X8_change (xs (ix (x3 + 1))) (xs (ix (x3 + 2))) (xs (ix (x3 + 3))) h70 (fun v76 h75 =>
                  (((v71 = v76) →
                    ∀ x3_78 : Int32, x3_78 = (x3 + 6) →
                    f_L_law_L18 xL xs Q n x3_78 h75) ∧
                   (¬ (v71 = v76) →
                    Q 0 h75))))) ∧
                 (¬ (((xs (ix x3)) &&& 63) = 5) →
                  (((((xs (ix x3)) &&& 63) = 6) →
                    vp_in (x3 + 1) xL ∧
                    vp_in (x3 + 2) xL ∧
                    f_X7_as (xs (ix (x3 + 1))) (xs (ix (x3 + 2))) h (fun v83 h82 =>
                    vp_in (x3 + 1) xL ∧
                    vp_in (x3 + 2) xL ∧
                    f_X8_as (xs (ix (x3 + 1))) (xs (ix (x3 + 2))) h82 (fun v87 h86 =>
                    (((v83 = v87) →
                      ∀ x3_89 : Int32, x3_89 = (x3 + 6) →
                      f_L_law_L18 xL xs Q n x3_89 h86) ∧
                     (¬ (v83 = v87) →
                      Q 0 h86))))) ∧
                   (¬ (((xs (ix x3)) &&& 63) = 6) →
                    (((((xs (ix x3)) &&& 63) = 7) →
                      vp_in (x3 + 1) xL ∧
                      vp_in (x3 + 2) xL ∧
                      f_X7_stands (xs (ix (x3 + 1))) (xs (ix (x3 + 2))) h (fun v94 h93 =>
                      vp_in (x3 + 1) xL ∧
                      vp_in (x3 + 2) xL ∧
                      f_X8_stands (xs (ix (x3 + 1))) (xs (ix (x3 + 2))) h93 (fun v98 h97 =>
                      (((v94 = v98) →
                        ∀ x3_100 : Int32, x3_100 = (x3 + 6) →
                        f_L_law_L18 xL xs Q n x3_100 h97) ∧
                       (¬ (v94 = v98) →
                        Q 0 h97))))) ∧
                     (¬ (((xs (ix x3)) &&& 63) = 7) →
                      (((((xs (ix x3)) &&& 63) = 8) →
                        vp_in (x3 + 1) xL ∧
                        vp_in (x3 + 2) xL ∧
                        f_X7_send (xs (ix (x3 + 1))) (xs (ix (x3 + 2))) h (fun v105 h104 =>
                        vp_in (x3 + 1) xL ∧
                        vp_in (x3 + 2) xL ∧
                        f_X8_send (xs (ix (x3 + 1))) (xs (ix (x3 + 2))) h104 (fun v109 h108 =>
                        (((v105 = v109) →
                          ∀ x3_111 : Int32, x3_111 = (x3 + 6) →
                          f_L_law_L18 xL xs Q n x3_111 h108) ∧
                         (¬ (v105 = v109) →
                          Q 0 h108))))) ∧
                       (¬ (((xs (ix x3)) &&& 63) = 8) →
                        (((((xs (ix x3)) &&& 63) = 9) →
                          vp_in (x3 + 1) xL ∧
                          f_X7_go (xs (ix (x3 + 1))) h (fun v115 h114 =>
                          vp_in (x3 + 1) xL ∧
                          f_X8_go (xs (ix (x3 + 1))) h114 (fun v118 h117 =>
                          (((v115 = v118) →
                            ∀ x3_120 : Int32, x3_120 = (x3 + 6) →
                            f_L_law_L18 xL xs Q n x3_120 h117) ∧
                           (¬ (v115 = v118) →
                            Q 0 h117))))) ∧
                         (¬ (((xs (ix x3)) &&& 63) = 9) →
                          (((((xs (ix x3)) &&& 63) = 10) →
                            vp_in (x3 + 1) xL ∧
                            f_X7_now (xs (ix (x3 + 1))) h (fun v124 h123 =>
                            vp_in (x3 + 1) xL ∧
                            f_X8_now (xs (ix (x3 + 1))) h123 (fun v127 h126 =>
                            (((v124 = v127) →
                              ∀ x3_129 : Int32, x3_129 = (x3 + 6) →
                              f_L_law_L18 xL xs Q n x3_129 h126) ∧
                             (¬ (v124 = v127) →
                              Q 0 h126))))) ∧
                           (¬ (((xs (ix x3)) &&& 63) = 10) →
                            (((((xs (ix x3)) &&& 63) = 11) →
                              vp_in (x3 + 1) xL ∧
                              vp_in (x3 + 2) xL ∧
                              f_X7_most (xs (ix (x3 + 1))) (xs (ix (x3 + 2))) h (fun v134 h133 =>
                              vp_in (x3 + 1) xL ∧
                              vp_in (x3 + 2) xL ∧
                              f_X8_most (xs (ix (x3 + 1))) (xs (ix (x3 + 2))) h133 (fun v138 h137 =>
                              (((v134 = v138) →
                                ∀ x3_140 : Int32, x3_140 = (x3 + 6) →
                                f_L_law_L18 xL xs Q n x3_140 h137) ∧
                               (¬ (v134 = v138) →
                                Q 0 h137))))) ∧
                             (¬ (((xs (ix x3)) &&& 63) = 11) →
                              (((((xs (ix x3)) &&& 63) = 12) →
                                vp_in (x3 + 1) xL ∧
                                vp_in (x3 + 2) xL ∧
                                f_X7_quick (xs (ix (x3 + 1))) (xs (ix (x3 + 2))) h (fun v145 h144 =>
                                vp_in (x3 + 1) xL ∧
                                vp_in (x3 + 2) xL ∧
                                f_X8_quick (xs (ix (x3 + 1))) (xs (ix (x3 + 2))) h144 (fun v149 h148 =>
                                (((v145 = v149) →
                                  ∀ x3_151 : Int32, x3_151 = (x3 + 6) →
                                  f_L_law_L18 xL xs Q n x3_151 h148) ∧
                                 (¬ (v145 = v149) →
                                  Q 0 h148))))) ∧
                               (¬ (((xs (ix x3)) &&& 63) = 12) →
                                (((((xs (ix x3)) &&& 63) = 13) →
                                  vp_in (x3 + 1) xL ∧
                                  f_X7_all (xs (ix (x3 + 1))) h (fun v155 h154 =>
                                  vp_in (x3 + 1) xL ∧
                                  f_X8_all (xs (ix (x3 + 1))) h154 (fun v158 h157 =>
                                  (((v155 = v158) →
                                    ∀ x3_160 : Int32, x3_160 = (x3 + 6) →
                                    f_L_law_L18 xL xs Q n x3_160 h157) ∧
                                   (¬ (v155 = v158) →
                                    Q 0 h157))))) ∧
                                 (¬ (((xs (ix x3)) &&& 63) = 13) →
                                  (((((xs (ix x3)) &&& 63) = 14) →
                                    vp_in (x3 + 1) xL ∧
                                    vp_in (x3 + 2) xL ∧
                                    vp_in (x3 + 3) xL ∧
                                    f_X7_near (xs (ix (x3 + 1))) (xs (ix (x3 + 2))) (xs (ix (x3 + 3))) h (fun v166 h165 =>
                                    vp_in (x3 + 1) xL ∧
                                    vp_in (x3 + 2) xL ∧
                                    vp_in (x3 + 3) xL ∧
                                    f_X8_near (xs (ix (x3 + 1))) (xs (ix (x3 + 2))) (xs (ix (x3 + 3))) h165 (fun v171 h170 =>
                                    (((v166 = v171) →
                                      ∀ x3_173 : Int32, x3_173 = (x3 + 6) →
                                      f_L_law_L18 xL xs Q n x3_173 h170) ∧
                                     (¬ (v166 = v171) →
                                      Q 0 h170))))) ∧
                                   (¬ (((xs (ix x3)) &&& 63) = 14) →
                                    (((((xs (ix x3)) &&& 63) = 15) →
                                      vp_in (x3 + 1) xL ∧
                                      vp_in (x3 + 2) xL ∧
                                      vp_in (x3 + 3) xL ∧
                                      f_X7_cost (xs (ix (x3 + 1))) (xs (ix (x3 + 2))) (xs (ix (x3 + 3))) h (fun v179 h178 =>
                                      vp_in (x3 + 1) xL ∧
                                      vp_in (x3 + 2) xL ∧
                                      vp_in (x3 + 3) xL ∧
                                      f_X8_cost (xs (ix (x3 + 1))) (xs (ix (x3 + 2))) (xs (ix (x3 + 3))) h178 (fun v184 h183 =>
                                      (((v179 = v184) →
                                        ∀ x3_186 : Int32, x3_186 = (x3 + 6) →
                                        f_L_law_L18 xL xs Q n x3_186 h183) ∧
                                       (¬ (v179 = v184) →
                                        Q 0 h183))))) ∧
                                     (¬ (((xs (ix x3)) &&& 63) = 15) →
                                      (((((xs (ix x3)) &&& 63) = 16) →
                                        vp_in (x3 + 1) xL ∧
                                        vp_in (x3 + 2) xL ∧
                                        f_X7_lose (xs (ix (x3 + 1))) (xs (ix (x3 + 2))) h (fun v191 h190 =>
                                        vp_in (x3 + 1) xL ∧
                                        vp_in (x3 + 2) xL ∧
                                        f_X8_lose (xs (ix (x3 + 1))) (xs (ix (x3 + 2))) h190 (fun v195 h194 =>
                                        (((v191 = v195) →
                                          ∀ x3_197 : Int32, x3_197 = (x3 + 6) →
                                          f_L_law_L18 xL xs Q n x3_197 h194) ∧
                                         (¬ (v191 = v195) →
                                          Q 0 h194))))) ∧
                                       (¬ (((xs (ix x3)) &&& 63) = 16) →
                                        (((((xs (ix x3)) &&& 63) = 17) →
                                          vp_in (x3 + 1) xL ∧
                                          vp_in (x3 + 2) xL ∧
                                          f_X7_widen (xs (ix (x3 + 1))) (xs (ix (x3 + 2))) h (fun v202 h201 =>
                                          vp_in (x3 + 1) xL ∧
                                          vp_in (x3 + 2) xL ∧
                                          f_X8_widen (xs (ix (x3 + 1))) (xs (ix (x3 + 2))) h201 (fun v206 h205 =>
                                          (((v202 = v206) →
                                            ∀ x3_208 : Int32, x3_208 = (x3 + 6) →
                                            f_L_law_L18 xL xs Q n x3_208 h205) ∧
                                           (¬ (v202 = v206) →
                                            Q 0 h205))))) ∧
                                         (¬ (((xs (ix x3)) &&& 63) = 17) →
                                          (((((xs (ix x3)) &&& 63) = 18) →
                                            vp_in (x3 + 1) xL ∧
                                            vp_in (x3 + 2) xL ∧
                                            vp_in (x3 + 3) xL ∧
                                            f_X7_held (xs (ix (x3 + 1))) (xs (ix (x3 + 2))) (xs (ix (x3 + 3))) h (fun v214 h213 =>
                                            vp_in (x3 + 1) xL ∧
                                            vp_in (x3 + 2) xL ∧
                                            vp_in (x3 + 3) xL ∧
                                            f_X8_held (xs (ix (x3 + 1))) (xs (ix (x3 + 2))) (xs (ix (x3 + 3))) h213 (fun v219 h218 =>
                                            (((v214 = v219) →
                                              ∀ x3_221 : Int32, x3_221 = (x3 + 6) →
                                              f_L_law_L18 xL xs Q n x3_221 h218) ∧
                                             (¬ (v214 = v219) →
                                              Q 0 h218))))) ∧
                                           (¬ (((xs (ix x3)) &&& 63) = 18) →
                                            (((((xs (ix x3)) &&& 63) = 19) →
                                              vp_in (x3 + 1) xL ∧
                                              vp_in (x3 + 2) xL ∧
                                              f_X7_begin (xs (ix (x3 + 1))) (xs (ix (x3 + 2))) h (fun v226 h225 =>
                                              vp_in (x3 + 1) xL ∧
                                              vp_in (x3 + 2) xL ∧
                                              f_X8_begin (xs (ix (x3 + 1))) (xs (ix (x3 + 2))) h225 (fun v230 h229 =>
                                              (((v226 = v230) →
                                                ∀ x3_232 : Int32, x3_232 = (x3 + 6) →
                                                f_L_law_L18 xL xs Q n x3_232 h229) ∧
                                               (¬ (v226 = v230) →
                                                Q 0 h229))))) ∧
                                             (¬ (((xs (ix x3)) &&& 63) = 19) →
                                              (((((xs (ix x3)) &&& 63) = 20) →
                                                vp_in (x3 + 1) xL ∧
                                                vp_in (x3 + 2) xL ∧
                                                vp_in (x3 + 3) xL ∧
                                                f_X7_kind (xs (ix (x3 + 1))) (xs (ix (x3 + 2))) (xs (ix (x3 + 3))) h (fun v238 h237 =>
                                                vp_in (x3 + 1) xL ∧
                                                vp_in (x3 + 2) xL ∧
                                                vp_in (x3 + 3) xL ∧
                                                f_X8_kind (xs (ix (x3 + 1))) (xs (ix (x3 + 2))) (xs (ix (x3 + 3))) h237 (fun v243 h242 =>
                                                (((v238 = v243) →
                                                  ∀ x3_245 : Int32, x3_245 = (x3 + 6) →
                                                  f_L_law_L18 xL xs Q n x3_245 h242) ∧
                                                 (¬ (v238 = v243) →
                                                  Q 0 h242))))) ∧
                                               (¬ (((xs (ix x3)) &&& 63) = 20) →
                                                (((((xs (ix x3)) &&& 63) = 21) →
                                                  vp_in (x3 + 1) xL ∧
                                                  f_X7_goal (xs (ix (x3 + 1))) h (fun v249 h248 =>
                                                  vp_in (x3 + 1) xL ∧
                                                  f_X8_goal (xs (ix (x3 + 1))) h248 (fun v252 h251 =>
                                                  (((v249 = v252) →
                                                    ∀ x3_254 : Int32, x3_254 = (x3 + 6) →
                                                    f_L_law_L18 xL xs Q n x3_254 h251) ∧
                                                   (¬ (v249 = v252) →
                                                    Q 0 h251))))) ∧
                                                 (¬ (((xs (ix x3)) &&& 63) = 21) →
                                                  (((((xs (ix x3)) &&& 63) = 22) →
                                                    vp_in (x3 + 1) xL ∧
                                                    vp_in (x3 + 2) xL ∧
                                                    vp_in (x3 + 3) xL ∧
                                                    f_X7_steady (xs (ix (x3 + 1))) (xs (ix (x3 + 2))) (xs (ix (x3 + 3))) h (fun v260 h259 =>
                                                    vp_in (x3 + 1) xL ∧
                                                    vp_in (x3 + 2) xL ∧
                                                    vp_in (x3 + 3) xL ∧
                                                    f_X8_steady (xs (ix (x3 + 1))) (xs (ix (x3 + 2))) (xs (ix (x3 + 3))) h259 (fun v265 h264 =>
                                                    (((v260 = v265) →
                                                      ∀ x3_267 : Int32, x3_267 = (x3 + 6) →
                                                      f_L_law_L18 xL xs Q n x3_267 h264) ∧
                                                     (¬ (v260 = v265) →
                                                      Q 0 h264))))) ∧
                                                   (¬ (((xs (ix x3)) &&& 63) = 22) →
                                                    (((((xs (ix x3)) &&& 63) = 23) →
                                                      vp_in (x3 + 1) xL ∧
                                                      vp_in (x3 + 2) xL ∧
                                                      f_X7_rate (xs (ix (x3 + 1))) (xs (ix (x3 + 2))) h (fun v272 h271 =>
                                                      vp_in (x3 + 1) xL ∧
                                                      vp_in (x3 + 2) xL ∧
                                                      f_X8_rate (xs (ix (x3 + 1))) (xs (ix (x3 + 2))) h271 (fun v276 h275 =>
                                                      (((v272 = v276) →
                                                        ∀ x3_278 : Int32, x3_278 = (x3 + 6) →
                                                        f_L_law_L18 xL xs Q n x3_278 h275) ∧
                                                       (¬ (v272 = v276) →
                                                        Q 0 h275))))) ∧
                                                     (¬ (((xs (ix x3)) &&& 63) = 23) →
                                                      (((((xs (ix x3)) &&& 63) = 24) →
                                                        vp_in (x3 + 1) xL ∧
                                                        vp_in (x3 + 2) xL ∧
                                                        vp_in (x3 + 3) xL ∧
                                                        f_X7_gain (xs (ix (x3 + 1))) (xs (ix (x3 + 2))) (xs (ix (x3 + 3))) h (fun v284 h283 =>
                                                        vp_in (x3 + 1) xL ∧
                                                        vp_in (x3 + 2) xL ∧
                                                        vp_in (x3 + 3) xL ∧
                                                        f_X8_gain (xs (ix (x3 + 1))) (xs (ix (x3 + 2))) (xs (ix (x3 + 3))) h283 (fun v289 h288 =>
                                                        (((v284 = v289) →
                                                          ∀ x3_291 : Int32, x3_291 = (x3 + 6) →
                                                          f_L_law_L18 xL xs Q n x3_291 h288) ∧
                                                         (¬ (v284 = v289) →
                                                          Q 0 h288))))) ∧
                                                       (¬ (((xs (ix x3)) &&& 63) = 24) →
                                                        (((((xs (ix x3)) &&& 63) = 25) →
                                                          vp_in (x3 + 1) xL ∧
                                                          vp_in (x3 + 2) xL ∧
                                                          vp_in (x3 + 3) xL ∧
                                                          f_X7_reach (xs (ix (x3 + 1))) (xs (ix (x3 + 2))) (xs (ix (x3 + 3))) h (fun v297 h296 =>
                                                          vp_in (x3 + 1) xL ∧
                                                          vp_in (x3 + 2) xL ∧
                                                          vp_in (x3 + 3) xL ∧
                                                          f_X8_reach (xs (ix (x3 + 1))) (xs (ix (x3 + 2))) (xs (ix (x3 + 3))) h296 (fun v302 h301 =>
                                                          (((v297 = v302) →
                                                            ∀ x3_304 : Int32, x3_304 = (x3 + 6) →
                                                            f_L_law_L18 xL xs Q n x3_304 h301) ∧
                                                           (¬ (v297 = v302) →
                                                            Q 0 h301))))) ∧
                                                         (¬ (((xs (ix x3)) &&& 63) = 25) →
                                                          (((((xs (ix x3)) &&& 63) = 26) →
                                                            vp_in (x3 + 1) xL ∧
                                                            vp_in (x3 + 2) xL ∧
                                                            f_X7_feed (xs (ix (x3 + 1))) (xs (ix (x3 + 2))) h (fun v309 h308 =>
                                                            vp_in (x3 + 1) xL ∧
                                                            vp_in (x3 + 2) xL ∧
                                                            f_X8_feed (xs (ix (x3 + 1))) (xs (ix (x3 + 2))) h308 (fun v313 h312 =>
                                                            (((v309 = v313) →
                                                              ∀ x3_315 : Int32, x3_315 = (x3 + 6) →
                                                              f_L_law_L18 xL xs Q n x3_315 h312) ∧
                                                             (¬ (v309 = v313) →
                                                              Q 0 h312))))) ∧
                                                           (¬ (((xs (ix x3)) &&& 63) = 26) →
                                                            (((((xs (ix x3)) &&& 63) = 27) →
                                                              f_X7_wipe h (fun v318 h317 =>
                                                              f_X8_wipe h317 (fun v320 h319 =>
                                                              (((v318 = v320) →
                                                                ∀ x3_322 : Int32, x3_322 = (x3 + 6) →
                                                                f_L_law_L18 xL xs Q n x3_322 h319) ∧
                                                               (¬ (v318 = v320) →
                                                                Q 0 h319))))) ∧
                                                             (¬ (((xs (ix x3)) &&& 63) = 27) →
                                                              (((((xs (ix x3)) &&& 63) = 28) →
                                                                f_X7_text h (fun v325 h324 =>
                                                                f_X8_text h324 (fun v327 h326 =>
                                                                (((v325 = v327) →
                                                                  ∀ x3_329 : Int32, x3_329 = (x3 + 6) →
                                                                  f_L_law_L18 xL xs Q n x3_329 h326) ∧
                                                                 (¬ (v325 = v327) →
                                                                  Q 0 h326))))) ∧
                                                               (¬ (((xs (ix x3)) &&& 63) = 28) →
                                                                (((((xs (ix x3)) &&& 63) = 29) →
                                                                  vp_in (x3 + 1) xL ∧
                                                                  vp_in (x3 + 2) xL ∧
                                                                  vp_in (x3 + 3) xL ∧
                                                                  f_X7_sheet (xs (ix (x3 + 1))) (xs (ix (x3 + 2))) (xs (ix (x3 + 3))) h (fun v335 h334 =>
                                                                  vp_in (x3 + 1) xL ∧
                                                                  vp_in (x3 + 2) xL ∧
                                                                  vp_in (x3 + 3) xL ∧
                                                                  f_X8_sheet (xs (ix (x3 + 1))) (xs (ix (x3 + 2))) (xs (ix (x3 + 3))) h334 (fun v340 h339 =>
                                                                  (((v335 = v340) →
                                                                    ∀ x3_342 : Int32, x3_342 = (x3 + 6) →
                                                                    f_L_law_L18 xL xs Q n x3_342 h339) ∧
                                                                   (¬ (v335 = v340) →
                                                                    Q 0 h339))))) ∧
                                                                 (¬ (((xs (ix x3)) &&& 63) = 29) →
                                                                  (((((xs (ix x3)) &&& 63) = 30) →
                                                                    vp_in (x3 + 1) xL ∧
                                                                    vp_in (x3 + 2) xL ∧
                                                                    vp_in (x3 + 3) xL ∧
                                                                    vp_in (x3 + 4) xL ∧
                                                                    f_X7_write (xs (ix (x3 + 1))) (xs (ix (x3 + 2))) ((((xs (ix (x3 + 3))) : Int32).toInt64 <<< ((32 : Int32).toInt64 &&& 63)) ||| (((xs (ix (x3 + 4))) : Int32).toInt64 &&& (4294967295 : Int64))) h (fun v349 h348 =>
                                                                    vp_in (x3 + 1) xL ∧
                                                                    vp_in (x3 + 2) xL ∧
                                                                    vp_in (x3 + 3) xL ∧
                                                                    vp_in (x3 + 4) xL ∧
                                                                    f_X8_write (xs (ix (x3 + 1))) (xs (ix (x3 + 2))) ((((xs (ix (x3 + 3))) : Int32).toInt64 <<< ((32 : Int32).toInt64 &&& 63)) ||| (((xs (ix (x3 + 4))) : Int32).toInt64 &&& (4294967295 : Int64))) h348 (fun v355 h354 =>
                                                                    ((((lg_cmp v349 v355) = 0) →
                                                                      ∀ x3_357 : Int32, x3_357 = (x3 + 6) →
                                                                      f_L_law_L18 xL xs Q n x3_357 h354) ∧
                                                                     (¬ ((lg_cmp v349 v355) = 0) →
                                                                      Q 0 h354))))) ∧
                                                                   (¬ (((xs (ix x3)) &&& 63) = 30) →
                                                                    (((((xs (ix x3)) &&& 63) = 31) →
                                                                      vp_in (x3 + 1) xL ∧
                                                                      vp_in (x3 + 2) xL ∧
                                                                      vp_in (x3 + 3) xL ∧
                                                                      vp_in (x3 + 4) xL ∧
                                                                      vp_in (x3 + 5) xL ∧
                                                                      f_X7_copy (xs (ix (x3 + 1))) (xs (ix (x3 + 2))) (xs (ix (x3 + 3))) (xs (ix (x3 + 4))) (xs (ix (x3 + 5))) h (fun v365 h364 =>
                                                                      vp_in (x3 + 1) xL ∧
                                                                      vp_in (x3 + 2) xL ∧
                                                                      vp_in (x3 + 3) xL ∧
                                                                      vp_in (x3 + 4) xL ∧
                                                                      vp_in (x3 + 5) xL ∧
                                                                      f_X8_copy (xs (ix (x3 + 1))) (xs (ix (x3 + 2))) (xs (ix (x3 + 3))) (xs (ix (x3 + 4))) (xs (ix (x3 + 5))) h364 (fun v372 h371 =>
                                                                      (((v365 = v372) →
                                                                        ∀ x3_374 : Int32, x3_374 = (x3 + 6) →
                                                                        f_L_law_L18 xL xs Q n x3_374 h371) ∧
                                                                       (¬ (v365 = v372) →
                                                                        Q 0 h371))))) ∧
                                                                     (¬ (((xs (ix x3)) &&& 63) = 31) →
                                                                      (((((xs (ix x3)) &&& 63) = 32) →
                                                                        vp_in (x3 + 1) xL ∧
                                                                        f_X7_lays (xs (ix (x3 + 1))) h (fun v378 h377 =>
                                                                        vp_in (x3 + 1) xL ∧
                                                                        f_X8_lays (xs (ix (x3 + 1))) h377 (fun v381 h380 =>
                                                                        (((v378 = v381) →
                                                                          ∀ x3_383 : Int32, x3_383 = (x3 + 6) →
                                                                          f_L_law_L18 xL xs Q n x3_383 h380) ∧
                                                                         (¬ (v378 = v381) →
                                                                          Q 0 h380))))) ∧
                                                                       (¬ (((xs (ix x3)) &&& 63) = 32) →
                                                                        (((((xs (ix x3)) &&& 63) = 33) →
                                                                          vp_in (x3 + 1) xL ∧
                                                                          vp_in (x3 + 2) xL ∧
                                                                          f_X7_book (xs (ix (x3 + 1))) (xs (ix (x3 + 2))) h (fun v388 h387 =>
                                                                          vp_in (x3 + 1) xL ∧
                                                                          vp_in (x3 + 2) xL ∧
                                                                          f_X8_book (xs (ix (x3 + 1))) (xs (ix (x3 + 2))) h387 (fun v392 h391 =>
                                                                          (((v388 = v392) →
                                                                            ∀ x3_394 : Int32, x3_394 = (x3 + 6) →
                                                                            f_L_law_L18 xL xs Q n x3_394 h391) ∧
                                                                           (¬ (v388 = v392) →
                                                                            Q 0 h391))))) ∧
                                                                         (¬ (((xs (ix x3)) &&& 63) = 33) →
                                                                          (((((xs (ix x3)) &&& 63) = 34) →
                                                                            vp_in (x3 + 1) xL ∧
                                                                            vp_in (x3 + 2) xL ∧
                                                                            vp_in (x3 + 3) xL ∧
                                                                            f_X7_replay (xs (ix (x3 + 1))) (xs (ix (x3 + 2))) (xs (ix (x3 + 3))) h (fun v400 h399 =>
                                                                            vp_in (x3 + 1) xL ∧
                                                                            vp_in (x3 + 2) xL ∧
                                                                            vp_in (x3 + 3) xL ∧
                                                                            f_X8_replay (xs (ix (x3 + 1))) (xs (ix (x3 + 2))) (xs (ix (x3 + 3))) h399 (fun v405 h404 =>
                                                                            (((v400 = v405) →
                                                                              ∀ x3_407 : Int32, x3_407 = (x3 + 6) →
                                                                              f_L_law_L18 xL xs Q n x3_407 h404) ∧
                                                                             (¬ (v400 = v405) →
                                                                              Q 0 h404))))) ∧
                                                                           (¬ (((xs (ix x3)) &&& 63) = 34) →
                                                                            (((((xs (ix x3)) &&& 63) = 35) →
                                                                              vp_in (x3 + 1) xL ∧
                                                                              vp_in (x3 + 2) xL ∧
                                                                              vp_in (x3 + 3) xL ∧
                                                                              f_X7_run (xs (ix (x3 + 1))) (xs (ix (x3 + 2))) (xs (ix (x3 + 3))) h (fun v413 h412 =>
                                                                              vp_in (x3 + 1) xL ∧
                                                                              vp_in (x3 + 2) xL ∧
                                                                              vp_in (x3 + 3) xL ∧
                                                                              f_X8_run (xs (ix (x3 + 1))) (xs (ix (x3 + 2))) (xs (ix (x3 + 3))) h412 (fun v418 h417 =>
                                                                              (((v413 = v418) →
                                                                                ∀ x3_420 : Int32, x3_420 = (x3 + 6) →
                                                                                f_L_law_L18 xL xs Q n x3_420 h417) ∧
                                                                               (¬ (v413 = v418) →
                                                                                Q 0 h417))))) ∧
                                                                             (¬ (((xs (ix x3)) &&& 63) = 35) →
                                                                              (((((xs (ix x3)) &&& 63) = 36) →
                                                                                f_X7_image h (fun v423 h422 =>
                                                                                f_X8_image h422 (fun v425 h424 =>
                                                                                (((v423 = v425) →
                                                                                  ∀ x3_427 : Int32, x3_427 = (x3 + 6) →
                                                                                  f_L_law_L18 xL xs Q n x3_427 h424) ∧
                                                                                 (¬ (v423 = v425) →
                                                                                  Q 0 h424))))) ∧
                                                                               (¬ (((xs (ix x3)) &&& 63) = 36) →
                                                                                (((((xs (ix x3)) &&& 63) = 37) →
                                                                                  f_X7_undo h (fun v430 h429 =>
                                                                                  f_X8_undo h429 (fun v432 h431 =>
                                                                                  (((v430 = v432) →
                                                                                    ∀ x3_434 : Int32, x3_434 = (x3 + 6) →
                                                                                    f_L_law_L18 xL xs Q n x3_434 h431) ∧
                                                                                   (¬ (v430 = v432) →
                                                                                    Q 0 h431))))) ∧
                                                                                 (¬ (((xs (ix x3)) &&& 63) = 37) →
                                                                                  (((((xs (ix x3)) &&& 63) = 38) →
                                                                                    f_X7_tear h (fun v437 h436 =>
                                                                                    f_X8_tear h436 (fun v439 h438 =>
                                                                                    (((v437 = v439) →
                                                                                      ∀ x3_441 : Int32, x3_441 = (x3 + 6) →
                                                                                      f_L_law_L18 xL xs Q n x3_441 h438) ∧
                                                                                     (¬ (v437 = v439) →
                                                                                      Q 0 h438))))) ∧
                                                                                   (¬ (((xs (ix x3)) &&& 63) = 38) →
                                                                                    (((((xs (ix x3)) &&& 63) = 39) →
                                                                                      vp_in (x3 + 1) xL ∧
                                                                                      f_X7_count (xs (ix (x3 + 1))) h (fun v445 h444 =>
                                                                                      vp_in (x3 + 1) xL ∧
                                                                                      f_X8_count (xs (ix (x3 + 1))) h444 (fun v448 h447 =>
                                                                                      (((v445 = v448) →
                                                                                        ∀ x3_450 : Int32, x3_450 = (x3 + 6) →
                                                                                        f_L_law_L18 xL xs Q n x3_450 h447) ∧
                                                                                       (¬ (v445 = v448) →
                                                                                        Q 0 h447))))) ∧
                                                                                     (¬ (((xs (ix x3)) &&& 63) = 39) →
                                                                                      (((((xs (ix x3)) &&& 63) = 40) →
                                                                                        vp_in (x3 + 1) xL ∧
                                                                                        f_X7_status (xs (ix (x3 + 1))) h (fun v454 h453 =>
                                                                                        vp_in (x3 + 1) xL ∧
                                                                                        f_X8_status (xs (ix (x3 + 1))) h453 (fun v457 h456 =>
                                                                                        (((v454 = v457) →
                                                                                          ∀ x3_459 : Int32, x3_459 = (x3 + 6) →
                                                                                          f_L_law_L18 xL xs Q n x3_459 h456) ∧
                                                                                         (¬ (v454 = v457) →
                                                                                          Q 0 h456))))) ∧
                                                                                       (¬ (((xs (ix x3)) &&& 63) = 40) →
                                                                                        ∀ x3_460 : Int32, x3_460 = (x3 + 6) →
                                                                                        f_L_law_L18 xL xs Q n x3_460 h))))))))))))))))))))))))))))))))))))))))))))))))))))))))))))))))))))))))))))))))))))
def f_L_law (xL : Nat) (xs : Nat → Int32) (h : HP) (Q : Int32 → HP → Prop) : Prop :=
  ∃ n461, f_L_law_L18 xL xs 
    Q n461 0 h
set_option maxRecDepth 100000 in
set_option maxHeartbeats 4000000 in
theorem l_L_law_L18 (g : GE)    (Q : Int32 → HP → Prop)  : ∀ (n : Nat) (x3 : Int32) (h : HP), f_L_law_L18 (gX g).1 (gX g).2 Q n x3 h → Wm g mL_law 18 [some (.ref 5000), some (.ref 0), some (.ref 117), some (.int x3)] [] h (qi Q) := by
  intro n
  induction n with
  | zero => intro x3 h H; exact H.elim
  | succ n ih =>
    intro x3 h H
    unfold f_L_law_L18 at H
    refine wm_iload_n 3 19 (by decide +kernel) rfl rfl ?_
    refine wm_aload_n 0 20 (by decide +kernel) rfl rfl ?_
    refine wm_slen 21 (by decide +kernel) rfl ?_
    refine wm_bipush 6 23 (by decide +kernel : decode cL_law 21 = .ok (.bipush 6, 2)) rfl (by decide +kernel) ?_
    refine wm_isub 24 (by decide +kernel) rfl ?_
    refine wm_icmp_gt 27 1622 (by decide +kernel : decode cL_law 24 = .ok (.if_icmp .gt 1598, 3)) (by decide) rfl (fun c1 => ?_) (fun c1 => ?_)
    · replace H := H.1 c1
      refine wm_iconst 1 1623 (by decide +kernel : decode cL_law 1622 = .ok (.iconst 1, 1)) rfl (by decide +kernel) ?_
      exact wm_iret (by decide +kernel) ⟨.boolean, rfl, (by decide +kernel)⟩ H
    · replace H := H.2 c1
      refine wm_aload_n 0 28 (by decide +kernel) rfl rfl ?_
      refine wm_iload_n 3 29 (by decide +kernel) rfl rfl ?_
      obtain ⟨o2, H⟩ := H
      refine wm_sald 30 (by decide +kernel) rfl o2 ?_
      refine wm_bipush 63 32 (by decide +kernel : decode cL_law 30 = .ok (.bipush 63, 2)) rfl (by decide +kernel) ?_
      refine wm_iand 33 (by decide +kernel) rfl ?_
      refine em_go H (fun c3 H => ?_) (fun c3 H => ?_)
      · refine wm_tin (off := 179) 0 212 c3 (by decide +kernel : decode cL_law 33 = .ok (.tableswitch 1583 0 40 #[179, 212, 275, 308, 341, 384, 427, 460, 493, 526, 549, 572, 605, 638, 661, 704, 747, 780, 813, 856, 889, 932, 955, 998, 1031, 1074, 1117, 1150, 1163, 1176, 1219, 1293, 1356, 1379, 1412, 1455, 1498, 1511, 1524, 1537, 1560], 179)) (by decide +kernel) (by decide +kernel) (by decide +kernel) (by decide) ?_
        refine wm_aload_n 1 213 (by decide +kernel) rfl rfl ?_
        refine wm_aload_n 0 214 (by decide +kernel) rfl rfl ?_
        refine wm_iload_n 3 215 (by decide +kernel) rfl rfl ?_
        refine wm_iconst 1 216 (by decide +kernel : decode cL_law 215 = .ok (.iconst 1, 1)) rfl (by decide +kernel) ?_
        refine wm_iadd 217 (by decide +kernel) rfl ?_
        obtain ⟨o4, H⟩ := H
        refine wm_sald 218 (by decide +kernel) rfl o4 ?_
        refine wm_aload_n 0 219 (by decide +kernel) rfl rfl ?_
        refine wm_iload_n 3 220 (by decide +kernel) rfl rfl ?_
        refine wm_iconst 2 221 (by decide +kernel : decode cL_law 220 = .ok (.iconst 2, 1)) rfl (by decide +kernel) ?_
        refine wm_iadd 222 (by decide +kernel) rfl ?_
        obtain ⟨o5, H⟩ := H
        refine wm_sald 223 (by decide +kernel) rfl o5 ?_
        refine wm_callVi mX7_station 2 7 [_, _] [] _ _ 226 mo_X7_station np_X7_station ml_RL_13 im_X7_station se_X7_station (by decide +kernel) (by decide +kernel) rfl rfl rfl (Nat.le_of_ble_eq_true rfl) (by decide +kernel) rfl (Nat.le_of_ble_eq_true rfl) _ (ent_pad 0 rfl) (l_X7_station g _ _ _ _ H) (fun v7 h6 H hzv7 => ?_)
        refine wm_aload_n 2 227 (by decide +kernel) rfl rfl ?_
        refine wm_aload_n 0 228 (by decide +kernel) rfl rfl ?_
        refine wm_iload_n 3 229 (by decide +kernel) rfl rfl ?_
        refine wm_iconst 1 230 (by decide +kernel : decode cL_law 229 = .ok (.iconst 1, 1)) rfl (by decide +kernel) ?_
        refine wm_iadd 231 (by decide +kernel) rfl ?_
        obtain ⟨o8, H⟩ := H
        refine wm_sald 232 (by decide +kernel) rfl o8 ?_
        refine wm_aload_n 0 233 (by decide +kernel) rfl rfl ?_
        refine wm_iload_n 3 234 (by decide +kernel) rfl rfl ?_
        refine wm_iconst 2 235 (by decide +kernel : decode cL_law 234 = .ok (.iconst 2, 1)) rfl (by decide +kernel) ?_
        refine wm_iadd 236 (by decide +kernel) rfl ?_
        obtain ⟨o9, H⟩ := H
        refine wm_sald 237 (by decide +kernel) rfl o9 ?_
        refine wm_callVi mX8_station 2 8 [_, _] [_] _ _ 240 mo_X8_station np_X8_station ml_RL_17 im_X8_station se_X8_station (by decide +kernel) (by decide +kernel) rfl rfl rfl (Nat.le_of_ble_eq_true rfl) (by decide +kernel) rfl (Nat.le_of_ble_eq_true rfl) _ (ent_pad 0 rfl) (l_X8_station g _ _ _ _ H) (fun v11 h10 H hzv11 => ?_)
        refine wm_icmp_eq 243 1616 (by decide +kernel : decode cL_law 240 = .ok (.if_icmp .eq 1376, 3)) (by decide) rfl (fun c12 => ?_) (fun c12 => ?_)
        · replace H := H.1 c12
          replace H := H _ rfl
          refine wm_iinc 3 (_ + 6) 1619 [some _, some _, some _, some _] (by decide +kernel : decode cL_law 1616 = .ok (.iinc 3 6, 3)) rfl (by decide +kernel) rfl (ofI_eq (by decide +kernel)) (okS_spec rfl) rfl ?_
          refine wm_goto 18 (by decide +kernel : decode cL_law 1619 = .ok (.goto (-1601), 3)) (by decide) ?_
          exact ih _ _ H
        · replace H := H.2 c12
          refine wm_iconst 0 244 (by decide +kernel : decode cL_law 243 = .ok (.iconst 0, 1)) rfl (by decide +kernel) ?_
          exact wm_iret (by decide +kernel) ⟨.boolean, rfl, (by decide +kernel)⟩ H
      · skip
        refine em_go H (fun c14 H => ?_) (fun c14 H => ?_)
        · refine wm_tin (off := 212) 1 245 c14 (by decide +kernel : decode cL_law 33 = .ok (.tableswitch 1583 0 40 #[179, 212, 275, 308, 341, 384, 427, 460, 493, 526, 549, 572, 605, 638, 661, 704, 747, 780, 813, 856, 889, 932, 955, 998, 1031, 1074, 1117, 1150, 1163, 1176, 1219, 1293, 1356, 1379, 1412, 1455, 1498, 1511, 1524, 1537, 1560], 179)) (by decide +kernel) (by decide +kernel) (by decide +kernel) (by decide) ?_
          refine wm_aload_n 1 246 (by decide +kernel) rfl rfl ?_
          refine wm_aload_n 0 247 (by decide +kernel) rfl rfl ?_
          refine wm_iload_n 3 248 (by decide +kernel) rfl rfl ?_
          refine wm_iconst 1 249 (by decide +kernel : decode cL_law 248 = .ok (.iconst 1, 1)) rfl (by decide +kernel) ?_
          refine wm_iadd 250 (by decide +kernel) rfl ?_
          obtain ⟨o15, H⟩ := H
          refine wm_sald 251 (by decide +kernel) rfl o15 ?_
          refine wm_aload_n 0 252 (by decide +kernel) rfl rfl ?_
          refine wm_iload_n 3 253 (by decide +kernel) rfl rfl ?_
          refine wm_iconst 2 254 (by decide +kernel : decode cL_law 253 = .ok (.iconst 2, 1)) rfl (by decide +kernel) ?_
          refine wm_iadd 255 (by decide +kernel) rfl ?_
          obtain ⟨o16, H⟩ := H
          refine wm_sald 256 (by decide +kernel) rfl o16 ?_
          refine wm_aload_n 0 257 (by decide +kernel) rfl rfl ?_
          refine wm_iload_n 3 258 (by decide +kernel) rfl rfl ?_
          refine wm_iconst 3 259 (by decide +kernel : decode cL_law 258 = .ok (.iconst 3, 1)) rfl (by decide +kernel) ?_
          refine wm_iadd 260 (by decide +kernel) rfl ?_
          obtain ⟨o17, H⟩ := H
          refine wm_sald 261 (by decide +kernel) rfl o17 ?_
          refine wm_aload_n 0 262 (by decide +kernel) rfl rfl ?_
          refine wm_iload_n 3 263 (by decide +kernel) rfl rfl ?_
          refine wm_iconst 4 264 (by decide +kernel : decode cL_law 263 = .ok (.iconst 4, 1)) rfl (by decide +kernel) ?_
          refine wm_iadd 265 (by decide +kernel) rfl ?_
          obtain ⟨o18, H⟩ := H
          refine wm_sald 266 (by decide +kernel) rfl o18 ?_
          refine wm_aload_n 0 267 (by decide +kernel) rfl rfl ?_
          refine wm_iload_n 3 268 (by decide +kernel) rfl rfl ?_
          refine wm_iconst 5 269 (by decide +kernel : decode cL_law 268 = .ok (.iconst 5, 1)) rfl (by decide +kernel) ?_
          refine wm_iadd 270 (by decide +kernel) rfl ?_
          obtain ⟨o19, H⟩ := H
          refine wm_sald 271 (by decide +kernel) rfl o19 ?_
          refine wm_callVi mX7_line 5 7 [_, _, _, _, _] [] _ _ 274 mo_X7_line np_X7_line ml_RL_18 im_X7_line se_X7_line (by decide +kernel) (by decide +kernel) rfl rfl rfl (Nat.le_of_ble_eq_true rfl) (by decide +kernel) rfl (Nat.le_of_ble_eq_true rfl) _ (ent_pad 1 rfl) (l_X7_line g _ _ _ _ _ _ _ H) (fun v21 h20 H hzv21 => ?_)
          refine wm_aload_n 2 275 (by decide +kernel) rfl rfl ?_
          refine wm_aload_n 0 276 (by decide +kernel) rfl rfl ?_
          refine wm_iload_n 3 277 (by decide +kernel) rfl rfl ?_
          refine wm_iconst 1 278 (by decide +kernel : decode cL_law 277 = .ok (.iconst 1, 1)) rfl (by decide +kernel) ?_
          refine wm_iadd 279 (by decide +kernel) rfl ?_
          obtain ⟨o22, H⟩ := H
          refine wm_sald 280 (by decide +kernel) rfl o22 ?_
          refine wm_aload_n 0 281 (by decide +kernel) rfl rfl ?_
          refine wm_iload_n 3 282 (by decide +kernel) rfl rfl ?_
          refine wm_iconst 2 283 (by decide +kernel : decode cL_law 282 = .ok (.iconst 2, 1)) rfl (by decide +kernel) ?_
          refine wm_iadd 284 (by decide +kernel) rfl ?_
          obtain ⟨o23, H⟩ := H
          refine wm_sald 285 (by decide +kernel) rfl o23 ?_
          refine wm_aload_n 0 286 (by decide +kernel) rfl rfl ?_
          refine wm_iload_n 3 287 (by decide +kernel) rfl rfl ?_
          refine wm_iconst 3 288 (by decide +kernel : decode cL_law 287 = .ok (.iconst 3, 1)) rfl (by decide +kernel) ?_
          refine wm_iadd 289 (by decide +kernel) rfl ?_
          obtain ⟨o24, H⟩ := H
          refine wm_sald 290 (by decide +kernel) rfl o24 ?_
          refine wm_aload_n 0 291 (by decide +kernel) rfl rfl ?_
          refine wm_iload_n 3 292 (by decide +kernel) rfl rfl ?_
          refine wm_iconst 4 293 (by decide +kernel : decode cL_law 292 = .ok (.iconst 4, 1)) rfl (by decide +kernel) ?_
          refine wm_iadd 294 (by decide +kernel) rfl ?_
          obtain ⟨o25, H⟩ := H
          refine wm_sald 295 (by decide +kernel) rfl o25 ?_
          refine wm_aload_n 0 296 (by decide +kernel) rfl rfl ?_
          refine wm_iload_n 3 297 (by decide +kernel) rfl rfl ?_
          refine wm_iconst 5 298 (by decide +kernel : decode cL_law 297 = .ok (.iconst 5, 1)) rfl (by decide +kernel) ?_
          refine wm_iadd 299 (by decide +kernel) rfl ?_
          obtain ⟨o26, H⟩ := H
          refine wm_sald 300 (by decide +kernel) rfl o26 ?_
          refine wm_callVi mX8_line 5 8 [_, _, _, _, _] [_] _ _ 303 mo_X8_line np_X8_line ml_RL_22 im_X8_line se_X8_line (by decide +kernel) (by decide +kernel) rfl rfl rfl (Nat.le_of_ble_eq_true rfl) (by decide +kernel) rfl (Nat.le_of_ble_eq_true rfl) _ (ent_pad 0 rfl) (l_X8_line g _ _ _ _ _ _ _ H) (fun v28 h27 H hzv28 => ?_)
          refine wm_icmp_eq 306 1616 (by decide +kernel : decode cL_law 303 = .ok (.if_icmp .eq 1313, 3)) (by decide) rfl (fun c29 => ?_) (fun c29 => ?_)
          · replace H := H.1 c29
            replace H := H _ rfl
            refine wm_iinc 3 (_ + 6) 1619 [some _, some _, some _, some _] (by decide +kernel : decode cL_law 1616 = .ok (.iinc 3 6, 3)) rfl (by decide +kernel) rfl (ofI_eq (by decide +kernel)) (okS_spec rfl) rfl ?_
            refine wm_goto 18 (by decide +kernel : decode cL_law 1619 = .ok (.goto (-1601), 3)) (by decide) ?_
            exact ih _ _ H
          · replace H := H.2 c29
            refine wm_iconst 0 307 (by decide +kernel : decode cL_law 306 = .ok (.iconst 0, 1)) rfl (by decide +kernel) ?_
            exact wm_iret (by decide +kernel) ⟨.boolean, rfl, (by decide +kernel)⟩ H
        · skip
          refine em_go H (fun c31 H => ?_) (fun c31 H => ?_)
          · refine wm_tin (off := 275) 2 308 c31 (by decide +kernel : decode cL_law 33 = .ok (.tableswitch 1583 0 40 #[179, 212, 275, 308, 341, 384, 427, 460, 493, 526, 549, 572, 605, 638, 661, 704, 747, 780, 813, 856, 889, 932, 955, 998, 1031, 1074, 1117, 1150, 1163, 1176, 1219, 1293, 1356, 1379, 1412, 1455, 1498, 1511, 1524, 1537, 1560], 179)) (by decide +kernel) (by decide +kernel) (by decide +kernel) (by decide) ?_
            refine wm_aload_n 1 309 (by decide +kernel) rfl rfl ?_
            refine wm_aload_n 0 310 (by decide +kernel) rfl rfl ?_
            refine wm_iload_n 3 311 (by decide +kernel) rfl rfl ?_
            refine wm_iconst 1 312 (by decide +kernel : decode cL_law 311 = .ok (.iconst 1, 1)) rfl (by decide +kernel) ?_
            refine wm_iadd 313 (by decide +kernel) rfl ?_
            obtain ⟨o32, H⟩ := H
            refine wm_sald 314 (by decide +kernel) rfl o32 ?_
            refine wm_aload_n 0 315 (by decide +kernel) rfl rfl ?_
            refine wm_iload_n 3 316 (by decide +kernel) rfl rfl ?_
            refine wm_iconst 2 317 (by decide +kernel : decode cL_law 316 = .ok (.iconst 2, 1)) rfl (by decide +kernel) ?_
            refine wm_iadd 318 (by decide +kernel) rfl ?_
            obtain ⟨o33, H⟩ := H
            refine wm_sald 319 (by decide +kernel) rfl o33 ?_
            refine wm_callVi mX7_of 2 7 [_, _] [] _ _ 322 mo_X7_of np_X7_of ml_RL_23 im_X7_of se_X7_of (by decide +kernel) (by decide +kernel) rfl rfl rfl (Nat.le_of_ble_eq_true rfl) (by decide +kernel) rfl (Nat.le_of_ble_eq_true rfl) _ (ent_pad 1 rfl) (l_X7_of g _ _ _ _ H) (fun v35 h34 H hzv35 => ?_)
            refine wm_aload_n 2 323 (by decide +kernel) rfl rfl ?_
            refine wm_aload_n 0 324 (by decide +kernel) rfl rfl ?_
            refine wm_iload_n 3 325 (by decide +kernel) rfl rfl ?_
            refine wm_iconst 1 326 (by decide +kernel : decode cL_law 325 = .ok (.iconst 1, 1)) rfl (by decide +kernel) ?_
            refine wm_iadd 327 (by decide +kernel) rfl ?_
            obtain ⟨o36, H⟩ := H
            refine wm_sald 328 (by decide +kernel) rfl o36 ?_
            refine wm_aload_n 0 329 (by decide +kernel) rfl rfl ?_
            refine wm_iload_n 3 330 (by decide +kernel) rfl rfl ?_
            refine wm_iconst 2 331 (by decide +kernel : decode cL_law 330 = .ok (.iconst 2, 1)) rfl (by decide +kernel) ?_
            refine wm_iadd 332 (by decide +kernel) rfl ?_
            obtain ⟨o37, H⟩ := H
            refine wm_sald 333 (by decide +kernel) rfl o37 ?_
            refine wm_callVi mX8_of 2 8 [_, _] [_] _ _ 336 mo_X8_of np_X8_of ml_RL_26 im_X8_of se_X8_of (by decide +kernel) (by decide +kernel) rfl rfl rfl (Nat.le_of_ble_eq_true rfl) (by decide +kernel) rfl (Nat.le_of_ble_eq_true rfl) _ (ent_pad 0 rfl) (l_X8_of g _ _ _ _ H) (fun v39 h38 H hzv39 => ?_)
            refine wm_icmp_eq 339 1616 (by decide +kernel : decode cL_law 336 = .ok (.if_icmp .eq 1280, 3)) (by decide) rfl (fun c40 => ?_) (fun c40 => ?_)
            · replace H := H.1 c40
              replace H := H _ rfl
              refine wm_iinc 3 (_ + 6) 1619 [some _, some _, some _, some _] (by decide +kernel : decode cL_law 1616 = .ok (.iinc 3 6, 3)) rfl (by decide +kernel) rfl (ofI_eq (by decide +kernel)) (okS_spec rfl) rfl ?_
              refine wm_goto 18 (by decide +kernel : decode cL_law 1619 = .ok (.goto (-1601), 3)) (by decide) ?_
              exact ih _ _ H
            · replace H := H.2 c40
              refine wm_iconst 0 340 (by decide +kernel : decode cL_law 339 = .ok (.iconst 0, 1)) rfl (by decide +kernel) ?_
              exact wm_iret (by decide +kernel) ⟨.boolean, rfl, (by decide +kernel)⟩ H
          · skip
            refine em_go H (fun c42 H => ?_) (fun c42 H => ?_)
            · refine wm_tin (off := 308) 3 341 c42 (by decide +kernel : decode cL_law 33 = .ok (.tableswitch 1583 0 40 #[179, 212, 275, 308, 341, 384, 427, 460, 493, 526, 549, 572, 605, 638, 661, 704, 747, 780, 813, 856, 889, 932, 955, 998, 1031, 1074, 1117, 1150, 1163, 1176, 1219, 1293, 1356, 1379, 1412, 1455, 1498, 1511, 1524, 1537, 1560], 179)) (by decide +kernel) (by decide +kernel) (by decide +kernel) (by decide) ?_
              refine wm_aload_n 1 342 (by decide +kernel) rfl rfl ?_
              refine wm_aload_n 0 343 (by decide +kernel) rfl rfl ?_
              refine wm_iload_n 3 344 (by decide +kernel) rfl rfl ?_
              refine wm_iconst 1 345 (by decide +kernel : decode cL_law 344 = .ok (.iconst 1, 1)) rfl (by decide +kernel) ?_
              refine wm_iadd 346 (by decide +kernel) rfl ?_
              obtain ⟨o43, H⟩ := H
              refine wm_sald 347 (by decide +kernel) rfl o43 ?_
              refine wm_aload_n 0 348 (by decide +kernel) rfl rfl ?_
              refine wm_iload_n 3 349 (by decide +kernel) rfl rfl ?_
              refine wm_iconst 2 350 (by decide +kernel : decode cL_law 349 = .ok (.iconst 2, 1)) rfl (by decide +kernel) ?_
              refine wm_iadd 351 (by decide +kernel) rfl ?_
              obtain ⟨o44, H⟩ := H
              refine wm_sald 352 (by decide +kernel) rfl o44 ?_
              refine wm_callVi mX7_its 2 7 [_, _] [] _ _ 355 mo_X7_its np_X7_its ml_RL_27 im_X7_its se_X7_its (by decide +kernel) (by decide +kernel) rfl rfl rfl (Nat.le_of_ble_eq_true rfl) (by decide +kernel) rfl (Nat.le_of_ble_eq_true rfl) _ (ent_pad 1 rfl) (l_X7_its g _ _ _ _ H) (fun v46 h45 H hzv46 => ?_)
              refine wm_aload_n 2 356 (by decide +kernel) rfl rfl ?_
              refine wm_aload_n 0 357 (by decide +kernel) rfl rfl ?_
              refine wm_iload_n 3 358 (by decide +kernel) rfl rfl ?_
              refine wm_iconst 1 359 (by decide +kernel : decode cL_law 358 = .ok (.iconst 1, 1)) rfl (by decide +kernel) ?_
              refine wm_iadd 360 (by decide +kernel) rfl ?_
              obtain ⟨o47, H⟩ := H
              refine wm_sald 361 (by decide +kernel) rfl o47 ?_
              refine wm_aload_n 0 362 (by decide +kernel) rfl rfl ?_
              refine wm_iload_n 3 363 (by decide +kernel) rfl rfl ?_
              refine wm_iconst 2 364 (by decide +kernel : decode cL_law 363 = .ok (.iconst 2, 1)) rfl (by decide +kernel) ?_
              refine wm_iadd 365 (by decide +kernel) rfl ?_
              obtain ⟨o48, H⟩ := H
              refine wm_sald 366 (by decide +kernel) rfl o48 ?_
              refine wm_callVi mX8_its 2 8 [_, _] [_] _ _ 369 mo_X8_its np_X8_its ml_RL_30 im_X8_its se_X8_its (by decide +kernel) (by decide +kernel) rfl rfl rfl (Nat.le_of_ble_eq_true rfl) (by decide +kernel) rfl (Nat.le_of_ble_eq_true rfl) _ (ent_pad 0 rfl) (l_X8_its g _ _ _ _ H) (fun v50 h49 H hzv50 => ?_)
              refine wm_icmp_eq 372 1616 (by decide +kernel : decode cL_law 369 = .ok (.if_icmp .eq 1247, 3)) (by decide) rfl (fun c51 => ?_) (fun c51 => ?_)
              · replace H := H.1 c51
                replace H := H _ rfl
                refine wm_iinc 3 (_ + 6) 1619 [some _, some _, some _, some _] (by decide +kernel : decode cL_law 1616 = .ok (.iinc 3 6, 3)) rfl (by decide +kernel) rfl (ofI_eq (by decide +kernel)) (okS_spec rfl) rfl ?_
                refine wm_goto 18 (by decide +kernel : decode cL_law 1619 = .ok (.goto (-1601), 3)) (by decide) ?_
                exact ih _ _ H
              · replace H := H.2 c51
                refine wm_iconst 0 373 (by decide +kernel : decode cL_law 372 = .ok (.iconst 0, 1)) rfl (by decide +kernel) ?_
                exact wm_iret (by decide +kernel) ⟨.boolean, rfl, (by decide +kernel)⟩ H
            · skip
              refine em_go H (fun c53 H => ?_) (fun c53 H => ?_)
              · refine wm_tin (off := 341) 4 374 c53 (by decide +kernel : decode cL_law 33 = .ok (.tableswitch 1583 0 40 #[179, 212, 275, 308, 341, 384, 427, 460, 493, 526, 549, 572, 605, 638, 661, 704, 747, 780, 813, 856, 889, 932, 955, 998, 1031, 1074, 1117, 1150, 1163, 1176, 1219, 1293, 1356, 1379, 1412, 1455, 1498, 1511, 1524, 1537, 1560], 179)) (by decide +kernel) (by decide +kernel) (by decide +kernel) (by decide) ?_
                refine wm_aload_n 1 375 (by decide +kernel) rfl rfl ?_
                refine wm_aload_n 0 376 (by decide +kernel) rfl rfl ?_
                refine wm_iload_n 3 377 (by decide +kernel) rfl rfl ?_
                refine wm_iconst 1 378 (by decide +kernel : decode cL_law 377 = .ok (.iconst 1, 1)) rfl (by decide +kernel) ?_
                refine wm_iadd 379 (by decide +kernel) rfl ?_
                obtain ⟨o54, H⟩ := H
                refine wm_sald 380 (by decide +kernel) rfl o54 ?_
                refine wm_aload_n 0 381 (by decide +kernel) rfl rfl ?_
                refine wm_iload_n 3 382 (by decide +kernel) rfl rfl ?_
                refine wm_iconst 2 383 (by decide +kernel : decode cL_law 382 = .ok (.iconst 2, 1)) rfl (by decide +kernel) ?_
                refine wm_iadd 384 (by decide +kernel) rfl ?_
                obtain ⟨o55, H⟩ := H
                refine wm_sald 385 (by decide +kernel) rfl o55 ?_
                refine wm_aload_n 0 386 (by decide +kernel) rfl rfl ?_
                refine wm_iload_n 3 387 (by decide +kernel) rfl rfl ?_
                refine wm_iconst 3 388 (by decide +kernel : decode cL_law 387 = .ok (.iconst 3, 1)) rfl (by decide +kernel) ?_
                refine wm_iadd 389 (by decide +kernel) rfl ?_
                obtain ⟨o56, H⟩ := H
                refine wm_sald 390 (by decide +kernel) rfl o56 ?_
                refine wm_callVi mX7_set 3 7 [_, _, _] [] _ _ 393 mo_X7_set np_X7_set ml_RL_31 im_X7_set se_X7_set (by decide +kernel) (by decide +kernel) rfl rfl rfl (Nat.le_of_ble_eq_true rfl) (by decide +kernel) rfl (Nat.le_of_ble_eq_true rfl) _ (ent_pad 0 rfl) (l_X7_set g _ _ _ _ _ H) (fun v58 h57 H hzv58 => ?_)
                refine wm_aload_n 2 394 (by decide +kernel) rfl rfl ?_
                refine wm_aload_n 0 395 (by decide +kernel) rfl rfl ?_
                refine wm_iload_n 3 396 (by decide +kernel) rfl rfl ?_
                refine wm_iconst 1 397 (by decide +kernel : decode cL_law 396 = .ok (.iconst 1, 1)) rfl (by decide +kernel) ?_
                refine wm_iadd 398 (by decide +kernel) rfl ?_
                obtain ⟨o59, H⟩ := H
                refine wm_sald 399 (by decide +kernel) rfl o59 ?_
                refine wm_aload_n 0 400 (by decide +kernel) rfl rfl ?_
                refine wm_iload_n 3 401 (by decide +kernel) rfl rfl ?_
                refine wm_iconst 2 402 (by decide +kernel : decode cL_law 401 = .ok (.iconst 2, 1)) rfl (by decide +kernel) ?_
                refine wm_iadd 403 (by decide +kernel) rfl ?_
                obtain ⟨o60, H⟩ := H
                refine wm_sald 404 (by decide +kernel) rfl o60 ?_
                refine wm_aload_n 0 405 (by decide +kernel) rfl rfl ?_
                refine wm_iload_n 3 406 (by decide +kernel) rfl rfl ?_
                refine wm_iconst 3 407 (by decide +kernel : decode cL_law 406 = .ok (.iconst 3, 1)) rfl (by decide +kernel) ?_
                refine wm_iadd 408 (by decide +kernel) rfl ?_
                obtain ⟨o61, H⟩ := H
                refine wm_sald 409 (by decide +kernel) rfl o61 ?_
                refine wm_callVi mX8_set 3 8 [_, _, _] [_] _ _ 412 mo_X8_set np_X8_set ml_RL_35 im_X8_set se_X8_set (by decide +kernel) (by decide +kernel) rfl rfl rfl (Nat.le_of_ble_eq_true rfl) (by decide +kernel) rfl (Nat.le_of_ble_eq_true rfl) _ (ent_pad 1 rfl) (l_X8_set g _ _ _ _ _ H) (fun v63 h62 H hzv63 => ?_)
                refine wm_icmp_eq 415 1616 (by decide +kernel : decode cL_law 412 = .ok (.if_icmp .eq 1204, 3)) (by decide) rfl (fun c64 => ?_) (fun c64 => ?_)
                · replace H := H.1 c64
                  replace H := H _ rfl
                  refine wm_iinc 3 (_ + 6) 1619 [some _, some _, some _, some _] (by decide +kernel : decode cL_law 1616 = .ok (.iinc 3 6, 3)) rfl (by decide +kernel) rfl (ofI_eq (by decide +kernel)) (okS_spec rfl) rfl ?_
                  refine wm_goto 18 (by decide +kernel : decode cL_law 1619 = .ok (.goto (-1601), 3)) (by decide) ?_
                  exact ih _ _ H
                · replace H := H.2 c64
                  refine wm_iconst 0 416 (by decide +kernel : decode cL_law 415 = .ok (.iconst 0, 1)) rfl (by decide +kernel) ?_
                  exact wm_iret (by decide +kernel) ⟨.boolean, rfl, (by decide +kernel)⟩ H
              · skip
                refine em_go H (fun c66 H => ?_) (fun c66 H => ?_)
                · refine wm_tin (off := 384) 5 417 c66 (by decide +kernel : decode cL_law 33 = .ok (.tableswitch 1583 0 40 #[179, 212, 275, 308, 341, 384, 427, 460, 493, 526, 549, 572, 605, 638, 661, 704, 747, 780, 813, 856, 889, 932, 955, 998, 1031, 1074, 1117, 1150, 1163, 1176, 1219, 1293, 1356, 1379, 1412, 1455, 1498, 1511, 1524, 1537, 1560], 179)) (by decide +kernel) (by decide +kernel) (by decide +kernel) (by decide) ?_
                  refine wm_aload_n 1 418 (by decide +kernel) rfl rfl ?_
                  refine wm_aload_n 0 419 (by decide +kernel) rfl rfl ?_
                  refine wm_iload_n 3 420 (by decide +kernel) rfl rfl ?_
                  refine wm_iconst 1 421 (by decide +kernel : decode cL_law 420 = .ok (.iconst 1, 1)) rfl (by decide +kernel) ?_
                  refine wm_iadd 422 (by decide +kernel) rfl ?_
                  obtain ⟨o67, H⟩ := H
                  refine wm_sald 423 (by decide +kernel) rfl o67 ?_
                  refine wm_aload_n 0 424 (by decide +kernel) rfl rfl ?_
                  refine wm_iload_n 3 425 (by decide +kernel) rfl rfl ?_
                  refine wm_iconst 2 426 (by decide +kernel : decode cL_law 425 = .ok (.iconst 2, 1)) rfl (by decide +kernel) ?_
                  refine wm_iadd 427 (by decide +kernel) rfl ?_
                  obtain ⟨o68, H⟩ := H
                  refine wm_sald 428 (by decide +kernel) rfl o68 ?_
                  refine wm_aload_n 0 429 (by decide +kernel) rfl rfl ?_
                  refine wm_iload_n 3 430 (by decide +kernel) rfl rfl ?_
                  refine wm_iconst 3 431 (by decide +kernel : decode cL_law 430 = .ok (.iconst 3, 1)) rfl (by decide +kernel) ?_
                  refine wm_iadd 432 (by decide +kernel) rfl ?_
                  obtain ⟨o69, H⟩ := H
                  refine wm_sald 433 (by decide +kernel) rfl o69 ?_
                  refine wm_callVi mX7_change 3 7 [_, _, _] [] _ _ 436 mo_X7_change np_X7_change ml_RL_36 im_X7_change se_X7_change (by decide +kernel) (by decide +kernel) rfl rfl rfl (Nat.le_of_ble_eq_true rfl) (by decide +kernel) rfl (Nat.le_of_ble_eq_true rfl) _ (ent_pad 2 rfl) (l_X7_change g _ _ _ _ _ H) (fun v71 h70 H hzv71 => ?_)
                  refine wm_aload_n 2 437 (by decide +kernel) rfl rfl ?_
                  refine wm_aload_n 0 438 (by decide +kernel) rfl rfl ?_
                  refine wm_iload_n 3 439 (by decide +kernel) rfl rfl ?_
                  refine wm_iconst 1 440 (by decide +kernel : decode cL_law 439 = .ok (.iconst 1, 1)) rfl (by decide +kernel) ?_
                  refine wm_iadd 441 (by decide +kernel) rfl ?_
                  obtain ⟨o72, H⟩ := H
                  refine wm_sald 442 (by decide +kernel) rfl o72 ?_
                  refine wm_aload_n 0 443 (by decide +kernel) rfl rfl ?_
                  refine wm_iload_n 3 444 (by decide +kernel) rfl rfl ?_
                  refine wm_iconst 2 445 (by decide +kernel : decode cL_law 444 = .ok (.iconst 2, 1)) rfl (by decide +kernel) ?_
                  refine wm_iadd 446 (by decide +kernel) rfl ?_
                  obtain ⟨o73, H⟩ := H
                  refine wm_sald 447 (by decide +kernel) rfl o73 ?_
                  refine wm_aload_n 0 448 (by decide +kernel) rfl rfl ?_
                  refine wm_iload_n 3 449 (by decide +kernel) rfl rfl ?_
                  refine wm_iconst 3 450 (by decide +kernel : decode cL_law 449 = .ok (.iconst 3, 1)) rfl (by decide +kernel) ?_
                  refine wm_iadd 451 (by decide +kernel) rfl ?_
                  obtain ⟨o74, H⟩ := H
                  refine wm_sald 452 (by decide +kernel) rfl o74 ?_
                  refine wm_callVi mX8_change 3 8 [_, _, _] [_] _ _ 455 mo_X8_change np_X8_change ml_RL_39 im_X8_change se_X8_change (by decide +kernel) (by decide +kernel) rfl rfl rfl (Nat.le_of_ble_eq_true rfl) (by decide +kernel) rfl (Nat.le_of_ble_eq_true rfl) _ (ent_pad 1 rfl) (l_X8_change g _ _ _ _ _ H) (fun v76 h75 H hzv76 => ?_)
                  refine wm_icmp_eq 458 1616 (by decide +kernel : decode cL_law 455 = .ok (.if_icmp .eq 1161, 3)) (by decide) rfl (fun c77 => ?_) (fun c77 => ?_)
                  · replace H := H.1 c77
                    replace H := H _ rfl
                    refine wm_iinc 3 (_ + 6) 1619 [some _, some _, some _, some _] (by decide +kernel : decode cL_law 1616 = .ok (.iinc 3 6, 3)) rfl (by decide +kernel) rfl (ofI_eq (by decide +kernel)) (okS_spec rfl) rfl ?_
                    refine wm_goto 18 (by decide +kernel : decode cL_law 1619 = .ok (.goto (-1601), 3)) (by decide) ?_
                    exact ih _ _ H
                  · replace H := H.2 c77
                    refine wm_iconst 0 459 (by decide +kernel : decode cL_law 458 = .ok (.iconst 0, 1)) rfl (by decide +kernel) ?_
                    exact wm_iret (by decide +kernel) ⟨.boolean, rfl, (by decide +kernel)⟩ H
                · skip
                  refine em_go H (fun c79 H => ?_) (fun c79 H => ?_)
                  · refine wm_tin (off := 427) 6 460 c79 (by decide +kernel : decode cL_law 33 = .ok (.tableswitch 1583 0 40 #[179, 212, 275, 308, 341, 384, 427, 460, 493, 526, 549, 572, 605, 638, 661, 704, 747, 780, 813, 856, 889, 932, 955, 998, 1031, 1074, 1117, 1150, 1163, 1176, 1219, 1293, 1356, 1379, 1412, 1455, 1498, 1511, 1524, 1537, 1560], 179)) (by decide +kernel) (by decide +kernel) (by decide +kernel) (by decide) ?_
                    refine wm_aload_n 1 461 (by decide +kernel) rfl rfl ?_
                    refine wm_aload_n 0 462 (by decide +kernel) rfl rfl ?_
                    refine wm_iload_n 3 463 (by decide +kernel) rfl rfl ?_
                    refine wm_iconst 1 464 (by decide +kernel : decode cL_law 463 = .ok (.iconst 1, 1)) rfl (by decide +kernel) ?_
                    refine wm_iadd 465 (by decide +kernel) rfl ?_
                    obtain ⟨o80, H⟩ := H
                    refine wm_sald 466 (by decide +kernel) rfl o80 ?_
                    refine wm_aload_n 0 467 (by decide +kernel) rfl rfl ?_
                    refine wm_iload_n 3 468 (by decide +kernel) rfl rfl ?_
                    refine wm_iconst 2 469 (by decide +kernel : decode cL_law 468 = .ok (.iconst 2, 1)) rfl (by decide +kernel) ?_
                    refine wm_iadd 470 (by decide +kernel) rfl ?_
                    obtain ⟨o81, H⟩ := H
                    refine wm_sald 471 (by decide +kernel) rfl o81 ?_
                    refine wm_callVi mX7_as 2 7 [_, _] [] _ _ 474 mo_X7_as np_X7_as ml_RL_40 im_X7_as se_X7_as (by decide +kernel) (by decide +kernel) rfl rfl rfl (Nat.le_of_ble_eq_true rfl) (by decide +kernel) rfl (Nat.le_of_ble_eq_true rfl) _ (ent_pad 1 rfl) (l_X7_as g _ _ _ _ H) (fun v83 h82 H hzv83 => ?_)
                    refine wm_aload_n 2 475 (by decide +kernel) rfl rfl ?_
                    refine wm_aload_n 0 476 (by decide +kernel) rfl rfl ?_
                    refine wm_iload_n 3 477 (by decide +kernel) rfl rfl ?_
                    refine wm_iconst 1 478 (by decide +kernel : decode cL_law 477 = .ok (.iconst 1, 1)) rfl (by decide +kernel) ?_
                    refine wm_iadd 479 (by decide +kernel) rfl ?_
                    obtain ⟨o84, H⟩ := H
                    refine wm_sald 480 (by decide +kernel) rfl o84 ?_
                    refine wm_aload_n 0 481 (by decide +kernel) rfl rfl ?_
                    refine wm_iload_n 3 482 (by decide +kernel) rfl rfl ?_
                    refine wm_iconst 2 483 (by decide +kernel : decode cL_law 482 = .ok (.iconst 2, 1)) rfl (by decide +kernel) ?_
                    refine wm_iadd 484 (by decide +kernel) rfl ?_
                    obtain ⟨o85, H⟩ := H
                    refine wm_sald 485 (by decide +kernel) rfl o85 ?_
                    refine wm_callVi mX8_as 2 8 [_, _] [_] _ _ 488 mo_X8_as np_X8_as ml_RL_43 im_X8_as se_X8_as (by decide +kernel) (by decide +kernel) rfl rfl rfl (Nat.le_of_ble_eq_true rfl) (by decide +kernel) rfl (Nat.le_of_ble_eq_true rfl) _ (ent_pad 2 rfl) (l_X8_as g _ _ _ _ H) (fun v87 h86 H hzv87 => ?_)
                    refine wm_icmp_eq 491 1616 (by decide +kernel : decode cL_law 488 = .ok (.if_icmp .eq 1128, 3)) (by decide) rfl (fun c88 => ?_) (fun c88 => ?_)
                    · replace H := H.1 c88
                      replace H := H _ rfl
                      refine wm_iinc 3 (_ + 6) 1619 [some _, some _, some _, some _] (by decide +kernel : decode cL_law 1616 = .ok (.iinc 3 6, 3)) rfl (by decide +kernel) rfl (ofI_eq (by decide +kernel)) (okS_spec rfl) rfl ?_
                      refine wm_goto 18 (by decide +kernel : decode cL_law 1619 = .ok (.goto (-1601), 3)) (by decide) ?_
                      exact ih _ _ H
                    · replace H := H.2 c88
                      refine wm_iconst 0 492 (by decide +kernel : decode cL_law 491 = .ok (.iconst 0, 1)) rfl (by decide +kernel) ?_
                      exact wm_iret (by decide +kernel) ⟨.boolean, rfl, (by decide +kernel)⟩ H
                  · skip
                    refine em_go H (fun c90 H => ?_) (fun c90 H => ?_)
                    · refine wm_tin (off := 460) 7 493 c90 (by decide +kernel : decode cL_law 33 = .ok (.tableswitch 1583 0 40 #[179, 212, 275, 308, 341, 384, 427, 460, 493, 526, 549, 572, 605, 638, 661, 704, 747, 780, 813, 856, 889, 932, 955, 998, 1031, 1074, 1117, 1150, 1163, 1176, 1219, 1293, 1356, 1379, 1412, 1455, 1498, 1511, 1524, 1537, 1560], 179)) (by decide +kernel) (by decide +kernel) (by decide +kernel) (by decide) ?_
                      refine wm_aload_n 1 494 (by decide +kernel) rfl rfl ?_
                      refine wm_aload_n 0 495 (by decide +kernel) rfl rfl ?_
                      refine wm_iload_n 3 496 (by decide +kernel) rfl rfl ?_
                      refine wm_iconst 1 497 (by decide +kernel : decode cL_law 496 = .ok (.iconst 1, 1)) rfl (by decide +kernel) ?_
                      refine wm_iadd 498 (by decide +kernel) rfl ?_
                      obtain ⟨o91, H⟩ := H
                      refine wm_sald 499 (by decide +kernel) rfl o91 ?_
                      refine wm_aload_n 0 500 (by decide +kernel) rfl rfl ?_
                      refine wm_iload_n 3 501 (by decide +kernel) rfl rfl ?_
                      refine wm_iconst 2 502 (by decide +kernel : decode cL_law 501 = .ok (.iconst 2, 1)) rfl (by decide +kernel) ?_
                      refine wm_iadd 503 (by decide +kernel) rfl ?_
                      obtain ⟨o92, H⟩ := H
                      refine wm_sald 504 (by decide +kernel) rfl o92 ?_
                      refine wm_callVi mX7_stands 2 7 [_, _] [] _ _ 507 mo_X7_stands np_X7_stands ml_RL_44 im_X7_stands se_X7_stands (by decide +kernel) (by decide +kernel) rfl rfl rfl (Nat.le_of_ble_eq_true rfl) (by decide +kernel) rfl (Nat.le_of_ble_eq_true rfl) _ (ent_pad 1 rfl) (l_X7_stands g _ _ _ _ H) (fun v94 h93 H hzv94 => ?_)
                      refine wm_aload_n 2 508 (by decide +kernel) rfl rfl ?_
                      refine wm_aload_n 0 509 (by decide +kernel) rfl rfl ?_
                      refine wm_iload_n 3 510 (by decide +kernel) rfl rfl ?_
                      refine wm_iconst 1 511 (by decide +kernel : decode cL_law 510 = .ok (.iconst 1, 1)) rfl (by decide +kernel) ?_
                      refine wm_iadd 512 (by decide +kernel) rfl ?_
                      obtain ⟨o95, H⟩ := H
                      refine wm_sald 513 (by decide +kernel) rfl o95 ?_
                      refine wm_aload_n 0 514 (by decide +kernel) rfl rfl ?_
                      refine wm_iload_n 3 515 (by decide +kernel) rfl rfl ?_
                      refine wm_iconst 2 516 (by decide +kernel : decode cL_law 515 = .ok (.iconst 2, 1)) rfl (by decide +kernel) ?_
                      refine wm_iadd 517 (by decide +kernel) rfl ?_
                      obtain ⟨o96, H⟩ := H
                      refine wm_sald 518 (by decide +kernel) rfl o96 ?_
                      refine wm_callVi mX8_stands 2 8 [_, _] [_] _ _ 521 mo_X8_stands np_X8_stands ml_RL_47 im_X8_stands se_X8_stands (by decide +kernel) (by decide +kernel) rfl rfl rfl (Nat.le_of_ble_eq_true rfl) (by decide +kernel) rfl (Nat.le_of_ble_eq_true rfl) _ (ent_pad 1 rfl) (l_X8_stands g _ _ _ _ H) (fun v98 h97 H hzv98 => ?_)
                      refine wm_icmp_eq 524 1616 (by decide +kernel : decode cL_law 521 = .ok (.if_icmp .eq 1095, 3)) (by decide) rfl (fun c99 => ?_) (fun c99 => ?_)
                      · replace H := H.1 c99
                        replace H := H _ rfl
                        refine wm_iinc 3 (_ + 6) 1619 [some _, some _, some _, some _] (by decide +kernel : decode cL_law 1616 = .ok (.iinc 3 6, 3)) rfl (by decide +kernel) rfl (ofI_eq (by decide +kernel)) (okS_spec rfl) rfl ?_
                        refine wm_goto 18 (by decide +kernel : decode cL_law 1619 = .ok (.goto (-1601), 3)) (by decide) ?_
                        exact ih _ _ H
                      · replace H := H.2 c99
                        refine wm_iconst 0 525 (by decide +kernel : decode cL_law 524 = .ok (.iconst 0, 1)) rfl (by decide +kernel) ?_
                        exact wm_iret (by decide +kernel) ⟨.boolean, rfl, (by decide +kernel)⟩ H
                    · skip
                      refine em_go H (fun c101 H => ?_) (fun c101 H => ?_)
                      · refine wm_tin (off := 493) 8 526 c101 (by decide +kernel : decode cL_law 33 = .ok (.tableswitch 1583 0 40 #[179, 212, 275, 308, 341, 384, 427, 460, 493, 526, 549, 572, 605, 638, 661, 704, 747, 780, 813, 856, 889, 932, 955, 998, 1031, 1074, 1117, 1150, 1163, 1176, 1219, 1293, 1356, 1379, 1412, 1455, 1498, 1511, 1524, 1537, 1560], 179)) (by decide +kernel) (by decide +kernel) (by decide +kernel) (by decide) ?_
                        refine wm_aload_n 1 527 (by decide +kernel) rfl rfl ?_
                        refine wm_aload_n 0 528 (by decide +kernel) rfl rfl ?_
                        refine wm_iload_n 3 529 (by decide +kernel) rfl rfl ?_
                        refine wm_iconst 1 530 (by decide +kernel : decode cL_law 529 = .ok (.iconst 1, 1)) rfl (by decide +kernel) ?_
                        refine wm_iadd 531 (by decide +kernel) rfl ?_
                        obtain ⟨o102, H⟩ := H
                        refine wm_sald 532 (by decide +kernel) rfl o102 ?_
                        refine wm_aload_n 0 533 (by decide +kernel) rfl rfl ?_
                        refine wm_iload_n 3 534 (by decide +kernel) rfl rfl ?_
                        refine wm_iconst 2 535 (by decide +kernel : decode cL_law 534 = .ok (.iconst 2, 1)) rfl (by decide +kernel) ?_
                        refine wm_iadd 536 (by decide +kernel) rfl ?_
                        obtain ⟨o103, H⟩ := H
                        refine wm_sald 537 (by decide +kernel) rfl o103 ?_
                        refine wm_callVi mX7_send 2 7 [_, _] [] _ _ 540 mo_X7_send np_X7_send ml_RL_48 im_X7_send se_X7_send (by decide +kernel) (by decide +kernel) rfl rfl rfl (Nat.le_of_ble_eq_true rfl) (by decide +kernel) rfl (Nat.le_of_ble_eq_true rfl) _ (ent_pad 0 rfl) (l_X7_send g _ _ _ _ H) (fun v105 h104 H hzv105 => ?_)
                        refine wm_aload_n 2 541 (by decide +kernel) rfl rfl ?_
                        refine wm_aload_n 0 542 (by decide +kernel) rfl rfl ?_
                        refine wm_iload_n 3 543 (by decide +kernel) rfl rfl ?_
                        refine wm_iconst 1 544 (by decide +kernel : decode cL_law 543 = .ok (.iconst 1, 1)) rfl (by decide +kernel) ?_
                        refine wm_iadd 545 (by decide +kernel) rfl ?_
                        obtain ⟨o106, H⟩ := H
                        refine wm_sald 546 (by decide +kernel) rfl o106 ?_
                        refine wm_aload_n 0 547 (by decide +kernel) rfl rfl ?_
                        refine wm_iload_n 3 548 (by decide +kernel) rfl rfl ?_
                        refine wm_iconst 2 549 (by decide +kernel : decode cL_law 548 = .ok (.iconst 2, 1)) rfl (by decide +kernel) ?_
                        refine wm_iadd 550 (by decide +kernel) rfl ?_
                        obtain ⟨o107, H⟩ := H
                        refine wm_sald 551 (by decide +kernel) rfl o107 ?_
                        refine wm_callVi mX8_send 2 8 [_, _] [_] _ _ 554 mo_X8_send np_X8_send ml_RL_51 im_X8_send se_X8_send (by decide +kernel) (by decide +kernel) rfl rfl rfl (Nat.le_of_ble_eq_true rfl) (by decide +kernel) rfl (Nat.le_of_ble_eq_true rfl) _ (ent_pad 0 rfl) (l_X8_send g _ _ _ _ H) (fun v109 h108 H hzv109 => ?_)
                        refine wm_icmp_eq 557 1616 (by decide +kernel : decode cL_law 554 = .ok (.if_icmp .eq 1062, 3)) (by decide) rfl (fun c110 => ?_) (fun c110 => ?_)
                        · replace H := H.1 c110
                          replace H := H _ rfl
                          refine wm_iinc 3 (_ + 6) 1619 [some _, some _, some _, some _] (by decide +kernel : decode cL_law 1616 = .ok (.iinc 3 6, 3)) rfl (by decide +kernel) rfl (ofI_eq (by decide +kernel)) (okS_spec rfl) rfl ?_
                          refine wm_goto 18 (by decide +kernel : decode cL_law 1619 = .ok (.goto (-1601), 3)) (by decide) ?_
                          exact ih _ _ H
                        · replace H := H.2 c110
                          refine wm_iconst 0 558 (by decide +kernel : decode cL_law 557 = .ok (.iconst 0, 1)) rfl (by decide +kernel) ?_
                          exact wm_iret (by decide +kernel) ⟨.boolean, rfl, (by decide +kernel)⟩ H
                      · skip
                        refine em_go H (fun c112 H => ?_) (fun c112 H => ?_)
                        · refine wm_tin (off := 526) 9 559 c112 (by decide +kernel : decode cL_law 33 = .ok (.tableswitch 1583 0 40 #[179, 212, 275, 308, 341, 384, 427, 460, 493, 526, 549, 572, 605, 638, 661, 704, 747, 780, 813, 856, 889, 932, 955, 998, 1031, 1074, 1117, 1150, 1163, 1176, 1219, 1293, 1356, 1379, 1412, 1455, 1498, 1511, 1524, 1537, 1560], 179)) (by decide +kernel) (by decide +kernel) (by decide +kernel) (by decide) ?_
                          refine wm_aload_n 1 560 (by decide +kernel) rfl rfl ?_
                          refine wm_aload_n 0 561 (by decide +kernel) rfl rfl ?_
                          refine wm_iload_n 3 562 (by decide +kernel) rfl rfl ?_
                          refine wm_iconst 1 563 (by decide +kernel : decode cL_law 562 = .ok (.iconst 1, 1)) rfl (by decide +kernel) ?_
                          refine wm_iadd 564 (by decide +kernel) rfl ?_
                          obtain ⟨o113, H⟩ := H
                          refine wm_sald 565 (by decide +kernel) rfl o113 ?_
                          refine wm_callVi mX7_go 1 7 [_] [] _ _ 568 mo_X7_go np_X7_go ml_RL_52 im_X7_go se_X7_go (by decide +kernel) (by decide +kernel) rfl rfl rfl (Nat.le_of_ble_eq_true rfl) (by decide +kernel) rfl (Nat.le_of_ble_eq_true rfl) _ (ent_pad 1 rfl) (l_X7_go g _ _ _ H) (fun v115 h114 H hzv115 => ?_)
                          refine wm_aload_n 2 569 (by decide +kernel) rfl rfl ?_
                          refine wm_aload_n 0 570 (by decide +kernel) rfl rfl ?_
                          refine wm_iload_n 3 571 (by decide +kernel) rfl rfl ?_
                          refine wm_iconst 1 572 (by decide +kernel : decode cL_law 571 = .ok (.iconst 1, 1)) rfl (by decide +kernel) ?_
                          refine wm_iadd 573 (by decide +kernel) rfl ?_
                          obtain ⟨o116, H⟩ := H
                          refine wm_sald 574 (by decide +kernel) rfl o116 ?_
                          refine wm_callVi mX8_go 1 8 [_] [_] _ _ 577 mo_X8_go np_X8_go ml_RL_56 im_X8_go se_X8_go (by decide +kernel) (by decide +kernel) rfl rfl rfl (Nat.le_of_ble_eq_true rfl) (by decide +kernel) rfl (Nat.le_of_ble_eq_true rfl) _ (ent_pad 1 rfl) (l_X8_go g _ _ _ H) (fun v118 h117 H hzv118 => ?_)
                          refine wm_icmp_eq 580 1616 (by decide +kernel : decode cL_law 577 = .ok (.if_icmp .eq 1039, 3)) (by decide) rfl (fun c119 => ?_) (fun c119 => ?_)
                          · replace H := H.1 c119
                            replace H := H _ rfl
                            refine wm_iinc 3 (_ + 6) 1619 [some _, some _, some _, some _] (by decide +kernel : decode cL_law 1616 = .ok (.iinc 3 6, 3)) rfl (by decide +kernel) rfl (ofI_eq (by decide +kernel)) (okS_spec rfl) rfl ?_
                            refine wm_goto 18 (by decide +kernel : decode cL_law 1619 = .ok (.goto (-1601), 3)) (by decide) ?_
                            exact ih _ _ H
                          · replace H := H.2 c119
                            refine wm_iconst 0 581 (by decide +kernel : decode cL_law 580 = .ok (.iconst 0, 1)) rfl (by decide +kernel) ?_
                            exact wm_iret (by decide +kernel) ⟨.boolean, rfl, (by decide +kernel)⟩ H
                        · skip
                          refine em_go H (fun c121 H => ?_) (fun c121 H => ?_)
                          · refine wm_tin (off := 549) 10 582 c121 (by decide +kernel : decode cL_law 33 = .ok (.tableswitch 1583 0 40 #[179, 212, 275, 308, 341, 384, 427, 460, 493, 526, 549, 572, 605, 638, 661, 704, 747, 780, 813, 856, 889, 932, 955, 998, 1031, 1074, 1117, 1150, 1163, 1176, 1219, 1293, 1356, 1379, 1412, 1455, 1498, 1511, 1524, 1537, 1560], 179)) (by decide +kernel) (by decide +kernel) (by decide +kernel) (by decide) ?_
                            refine wm_aload_n 1 583 (by decide +kernel) rfl rfl ?_
                            refine wm_aload_n 0 584 (by decide +kernel) rfl rfl ?_
                            refine wm_iload_n 3 585 (by decide +kernel) rfl rfl ?_
                            refine wm_iconst 1 586 (by decide +kernel : decode cL_law 585 = .ok (.iconst 1, 1)) rfl (by decide +kernel) ?_
                            refine wm_iadd 587 (by decide +kernel) rfl ?_
                            obtain ⟨o122, H⟩ := H
                            refine wm_sald 588 (by decide +kernel) rfl o122 ?_
                            refine wm_callVi mX7_now 1 7 [_] [] _ _ 591 mo_X7_now np_X7_now ml_RL_57 im_X7_now se_X7_now (by decide +kernel) (by decide +kernel) rfl rfl rfl (Nat.le_of_ble_eq_true rfl) (by decide +kernel) rfl (Nat.le_of_ble_eq_true rfl) _ (ent_pad 0 rfl) (l_X7_now g _ _ _ H) (fun v124 h123 H hzv124 => ?_)
                            refine wm_aload_n 2 592 (by decide +kernel) rfl rfl ?_
                            refine wm_aload_n 0 593 (by decide +kernel) rfl rfl ?_
                            refine wm_iload_n 3 594 (by decide +kernel) rfl rfl ?_
                            refine wm_iconst 1 595 (by decide +kernel : decode cL_law 594 = .ok (.iconst 1, 1)) rfl (by decide +kernel) ?_
                            refine wm_iadd 596 (by decide +kernel) rfl ?_
                            obtain ⟨o125, H⟩ := H
                            refine wm_sald 597 (by decide +kernel) rfl o125 ?_
                            refine wm_callVi mX8_now 1 8 [_] [_] _ _ 600 mo_X8_now np_X8_now ml_RL_60 im_X8_now se_X8_now (by decide +kernel) (by decide +kernel) rfl rfl rfl (Nat.le_of_ble_eq_true rfl) (by decide +kernel) rfl (Nat.le_of_ble_eq_true rfl) _ (ent_pad 0 rfl) (l_X8_now g _ _ _ H) (fun v127 h126 H hzv127 => ?_)
                            refine wm_icmp_eq 603 1616 (by decide +kernel : decode cL_law 600 = .ok (.if_icmp .eq 1016, 3)) (by decide) rfl (fun c128 => ?_) (fun c128 => ?_)
                            · replace H := H.1 c128
                              replace H := H _ rfl
                              refine wm_iinc 3 (_ + 6) 1619 [some _, some _, some _, some _] (by decide +kernel : decode cL_law 1616 = .ok (.iinc 3 6, 3)) rfl (by decide +kernel) rfl (ofI_eq (by decide +kernel)) (okS_spec rfl) rfl ?_
                              refine wm_goto 18 (by decide +kernel : decode cL_law 1619 = .ok (.goto (-1601), 3)) (by decide) ?_
                              exact ih _ _ H
                            · replace H := H.2 c128
                              refine wm_iconst 0 604 (by decide +kernel : decode cL_law 603 = .ok (.iconst 0, 1)) rfl (by decide +kernel) ?_
                              exact wm_iret (by decide +kernel) ⟨.boolean, rfl, (by decide +kernel)⟩ H
                          · skip
                            refine em_go H (fun c130 H => ?_) (fun c130 H => ?_)
                            · refine wm_tin (off := 572) 11 605 c130 (by decide +kernel : decode cL_law 33 = .ok (.tableswitch 1583 0 40 #[179, 212, 275, 308, 341, 384, 427, 460, 493, 526, 549, 572, 605, 638, 661, 704, 747, 780, 813, 856, 889, 932, 955, 998, 1031, 1074, 1117, 1150, 1163, 1176, 1219, 1293, 1356, 1379, 1412, 1455, 1498, 1511, 1524, 1537, 1560], 179)) (by decide +kernel) (by decide +kernel) (by decide +kernel) (by decide) ?_
                              refine wm_aload_n 1 606 (by decide +kernel) rfl rfl ?_
                              refine wm_aload_n 0 607 (by decide +kernel) rfl rfl ?_
                              refine wm_iload_n 3 608 (by decide +kernel) rfl rfl ?_
                              refine wm_iconst 1 609 (by decide +kernel : decode cL_law 608 = .ok (.iconst 1, 1)) rfl (by decide +kernel) ?_
                              refine wm_iadd 610 (by decide +kernel) rfl ?_
                              obtain ⟨o131, H⟩ := H
                              refine wm_sald 611 (by decide +kernel) rfl o131 ?_
                              refine wm_aload_n 0 612 (by decide +kernel) rfl rfl ?_
                              refine wm_iload_n 3 613 (by decide +kernel) rfl rfl ?_
                              refine wm_iconst 2 614 (by decide +kernel : decode cL_law 613 = .ok (.iconst 2, 1)) rfl (by decide +kernel) ?_
                              refine wm_iadd 615 (by decide +kernel) rfl ?_
                              obtain ⟨o132, H⟩ := H
                              refine wm_sald 616 (by decide +kernel) rfl o132 ?_
                              refine wm_callVi mX7_most 2 7 [_, _] [] _ _ 619 mo_X7_most np_X7_most ml_RL_61 im_X7_most se_X7_most (by decide +kernel) (by decide +kernel) rfl rfl rfl (Nat.le_of_ble_eq_true rfl) (by decide +kernel) rfl (Nat.le_of_ble_eq_true rfl) _ (ent_pad 0 rfl) (l_X7_most g _ _ _ _ H) (fun v134 h133 H hzv134 => ?_)
                              refine wm_aload_n 2 620 (by decide +kernel) rfl rfl ?_
                              refine wm_aload_n 0 621 (by decide +kernel) rfl rfl ?_
                              refine wm_iload_n 3 622 (by decide +kernel) rfl rfl ?_
                              refine wm_iconst 1 623 (by decide +kernel : decode cL_law 622 = .ok (.iconst 1, 1)) rfl (by decide +kernel) ?_
                              refine wm_iadd 624 (by decide +kernel) rfl ?_
                              obtain ⟨o135, H⟩ := H
                              refine wm_sald 625 (by decide +kernel) rfl o135 ?_
                              refine wm_aload_n 0 626 (by decide +kernel) rfl rfl ?_
                              refine wm_iload_n 3 627 (by decide +kernel) rfl rfl ?_
                              refine wm_iconst 2 628 (by decide +kernel : decode cL_law 627 = .ok (.iconst 2, 1)) rfl (by decide +kernel) ?_
                              refine wm_iadd 629 (by decide +kernel) rfl ?_
                              obtain ⟨o136, H⟩ := H
                              refine wm_sald 630 (by decide +kernel) rfl o136 ?_
                              refine wm_callVi mX8_most 2 8 [_, _] [_] _ _ 633 mo_X8_most np_X8_most ml_RL_64 im_X8_most se_X8_most (by decide +kernel) (by decide +kernel) rfl rfl rfl (Nat.le_of_ble_eq_true rfl) (by decide +kernel) rfl (Nat.le_of_ble_eq_true rfl) _ (ent_pad 0 rfl) (l_X8_most g _ _ _ _ H) (fun v138 h137 H hzv138 => ?_)
                              refine wm_icmp_eq 636 1616 (by decide +kernel : decode cL_law 633 = .ok (.if_icmp .eq 983, 3)) (by decide) rfl (fun c139 => ?_) (fun c139 => ?_)
                              · replace H := H.1 c139
                                replace H := H _ rfl
                                refine wm_iinc 3 (_ + 6) 1619 [some _, some _, some _, some _] (by decide +kernel : decode cL_law 1616 = .ok (.iinc 3 6, 3)) rfl (by decide +kernel) rfl (ofI_eq (by decide +kernel)) (okS_spec rfl) rfl ?_
                                refine wm_goto 18 (by decide +kernel : decode cL_law 1619 = .ok (.goto (-1601), 3)) (by decide) ?_
                                exact ih _ _ H
                              · replace H := H.2 c139
                                refine wm_iconst 0 637 (by decide +kernel : decode cL_law 636 = .ok (.iconst 0, 1)) rfl (by decide +kernel) ?_
                                exact wm_iret (by decide +kernel) ⟨.boolean, rfl, (by decide +kernel)⟩ H
                            · skip
                              refine em_go H (fun c141 H => ?_) (fun c141 H => ?_)
                              · refine wm_tin (off := 605) 12 638 c141 (by decide +kernel : decode cL_law 33 = .ok (.tableswitch 1583 0 40 #[179, 212, 275, 308, 341, 384, 427, 460, 493, 526, 549, 572, 605, 638, 661, 704, 747, 780, 813, 856, 889, 932, 955, 998, 1031, 1074, 1117, 1150, 1163, 1176, 1219, 1293, 1356, 1379, 1412, 1455, 1498, 1511, 1524, 1537, 1560], 179)) (by decide +kernel) (by decide +kernel) (by decide +kernel) (by decide) ?_
                                refine wm_aload_n 1 639 (by decide +kernel) rfl rfl ?_
                                refine wm_aload_n 0 640 (by decide +kernel) rfl rfl ?_
                                refine wm_iload_n 3 641 (by decide +kernel) rfl rfl ?_
                                refine wm_iconst 1 642 (by decide +kernel : decode cL_law 641 = .ok (.iconst 1, 1)) rfl (by decide +kernel) ?_
                                refine wm_iadd 643 (by decide +kernel) rfl ?_
                                obtain ⟨o142, H⟩ := H
                                refine wm_sald 644 (by decide +kernel) rfl o142 ?_
                                refine wm_aload_n 0 645 (by decide +kernel) rfl rfl ?_
                                refine wm_iload_n 3 646 (by decide +kernel) rfl rfl ?_
                                refine wm_iconst 2 647 (by decide +kernel : decode cL_law 646 = .ok (.iconst 2, 1)) rfl (by decide +kernel) ?_
                                refine wm_iadd 648 (by decide +kernel) rfl ?_
                                obtain ⟨o143, H⟩ := H
                                refine wm_sald 649 (by decide +kernel) rfl o143 ?_
                                refine wm_callVi mX7_quick 2 7 [_, _] [] _ _ 652 mo_X7_quick np_X7_quick ml_RL_65 im_X7_quick se_X7_quick (by decide +kernel) (by decide +kernel) rfl rfl rfl (Nat.le_of_ble_eq_true rfl) (by decide +kernel) rfl (Nat.le_of_ble_eq_true rfl) _ (ent_pad 1 rfl) (l_X7_quick g _ _ _ _ H) (fun v145 h144 H hzv145 => ?_)
                                refine wm_aload_n 2 653 (by decide +kernel) rfl rfl ?_
                                refine wm_aload_n 0 654 (by decide +kernel) rfl rfl ?_
                                refine wm_iload_n 3 655 (by decide +kernel) rfl rfl ?_
                                refine wm_iconst 1 656 (by decide +kernel : decode cL_law 655 = .ok (.iconst 1, 1)) rfl (by decide +kernel) ?_
                                refine wm_iadd 657 (by decide +kernel) rfl ?_
                                obtain ⟨o146, H⟩ := H
                                refine wm_sald 658 (by decide +kernel) rfl o146 ?_
                                refine wm_aload_n 0 659 (by decide +kernel) rfl rfl ?_
                                refine wm_iload_n 3 660 (by decide +kernel) rfl rfl ?_
                                refine wm_iconst 2 661 (by decide +kernel : decode cL_law 660 = .ok (.iconst 2, 1)) rfl (by decide +kernel) ?_
                                refine wm_iadd 662 (by decide +kernel) rfl ?_
                                obtain ⟨o147, H⟩ := H
                                refine wm_sald 663 (by decide +kernel) rfl o147 ?_
                                refine wm_callVi mX8_quick 2 8 [_, _] [_] _ _ 666 mo_X8_quick np_X8_quick ml_RL_68 im_X8_quick se_X8_quick (by decide +kernel) (by decide +kernel) rfl rfl rfl (Nat.le_of_ble_eq_true rfl) (by decide +kernel) rfl (Nat.le_of_ble_eq_true rfl) _ (ent_pad 1 rfl) (l_X8_quick g _ _ _ _ H) (fun v149 h148 H hzv149 => ?_)
                                refine wm_icmp_eq 669 1616 (by decide +kernel : decode cL_law 666 = .ok (.if_icmp .eq 950, 3)) (by decide) rfl (fun c150 => ?_) (fun c150 => ?_)
                                · replace H := H.1 c150
                                  replace H := H _ rfl
                                  refine wm_iinc 3 (_ + 6) 1619 [some _, some _, some _, some _] (by decide +kernel : decode cL_law 1616 = .ok (.iinc 3 6, 3)) rfl (by decide +kernel) rfl (ofI_eq (by decide +kernel)) (okS_spec rfl) rfl ?_
                                  refine wm_goto 18 (by decide +kernel : decode cL_law 1619 = .ok (.goto (-1601), 3)) (by decide) ?_
                                  exact ih _ _ H
                                · replace H := H.2 c150
                                  refine wm_iconst 0 670 (by decide +kernel : decode cL_law 669 = .ok (.iconst 0, 1)) rfl (by decide +kernel) ?_
                                  exact wm_iret (by decide +kernel) ⟨.boolean, rfl, (by decide +kernel)⟩ H
                              · skip
                                refine em_go H (fun c152 H => ?_) (fun c152 H => ?_)
                                · refine wm_tin (off := 638) 13 671 c152 (by decide +kernel : decode cL_law 33 = .ok (.tableswitch 1583 0 40 #[179, 212, 275, 308, 341, 384, 427, 460, 493, 526, 549, 572, 605, 638, 661, 704, 747, 780, 813, 856, 889, 932, 955, 998, 1031, 1074, 1117, 1150, 1163, 1176, 1219, 1293, 1356, 1379, 1412, 1455, 1498, 1511, 1524, 1537, 1560], 179)) (by decide +kernel) (by decide +kernel) (by decide +kernel) (by decide) ?_
                                  refine wm_aload_n 1 672 (by decide +kernel) rfl rfl ?_
                                  refine wm_aload_n 0 673 (by decide +kernel) rfl rfl ?_
                                  refine wm_iload_n 3 674 (by decide +kernel) rfl rfl ?_
                                  refine wm_iconst 1 675 (by decide +kernel : decode cL_law 674 = .ok (.iconst 1, 1)) rfl (by decide +kernel) ?_
                                  refine wm_iadd 676 (by decide +kernel) rfl ?_
                                  obtain ⟨o153, H⟩ := H
                                  refine wm_sald 677 (by decide +kernel) rfl o153 ?_
                                  refine wm_callVi mX7_all 1 7 [_] [] _ _ 680 mo_X7_all np_X7_all ml_RL_69 im_X7_all se_X7_all (by decide +kernel) (by decide +kernel) rfl rfl rfl (Nat.le_of_ble_eq_true rfl) (by decide +kernel) rfl (Nat.le_of_ble_eq_true rfl) _ (ent_pad 1 rfl) (l_X7_all g _ _ _ H) (fun v155 h154 H hzv155 => ?_)
                                  refine wm_aload_n 2 681 (by decide +kernel) rfl rfl ?_
                                  refine wm_aload_n 0 682 (by decide +kernel) rfl rfl ?_
                                  refine wm_iload_n 3 683 (by decide +kernel) rfl rfl ?_
                                  refine wm_iconst 1 684 (by decide +kernel : decode cL_law 683 = .ok (.iconst 1, 1)) rfl (by decide +kernel) ?_
                                  refine wm_iadd 685 (by decide +kernel) rfl ?_
                                  obtain ⟨o156, H⟩ := H
                                  refine wm_sald 686 (by decide +kernel) rfl o156 ?_
                                  refine wm_callVi mX8_all 1 8 [_] [_] _ _ 689 mo_X8_all np_X8_all ml_RL_72 im_X8_all se_X8_all (by decide +kernel) (by decide +kernel) rfl rfl rfl (Nat.le_of_ble_eq_true rfl) (by decide +kernel) rfl (Nat.le_of_ble_eq_true rfl) _ (ent_pad 1 rfl) (l_X8_all g _ _ _ H) (fun v158 h157 H hzv158 => ?_)
                                  refine wm_icmp_eq 692 1616 (by decide +kernel : decode cL_law 689 = .ok (.if_icmp .eq 927, 3)) (by decide) rfl (fun c159 => ?_) (fun c159 => ?_)
                                  · replace H := H.1 c159
                                    replace H := H _ rfl
                                    refine wm_iinc 3 (_ + 6) 1619 [some _, some _, some _, some _] (by decide +kernel : decode cL_law 1616 = .ok (.iinc 3 6, 3)) rfl (by decide +kernel) rfl (ofI_eq (by decide +kernel)) (okS_spec rfl) rfl ?_
                                    refine wm_goto 18 (by decide +kernel : decode cL_law 1619 = .ok (.goto (-1601), 3)) (by decide) ?_
                                    exact ih _ _ H
                                  · replace H := H.2 c159
                                    refine wm_iconst 0 693 (by decide +kernel : decode cL_law 692 = .ok (.iconst 0, 1)) rfl (by decide +kernel) ?_
                                    exact wm_iret (by decide +kernel) ⟨.boolean, rfl, (by decide +kernel)⟩ H
                                · skip
                                  refine em_go H (fun c161 H => ?_) (fun c161 H => ?_)
                                  · refine wm_tin (off := 661) 14 694 c161 (by decide +kernel : decode cL_law 33 = .ok (.tableswitch 1583 0 40 #[179, 212, 275, 308, 341, 384, 427, 460, 493, 526, 549, 572, 605, 638, 661, 704, 747, 780, 813, 856, 889, 932, 955, 998, 1031, 1074, 1117, 1150, 1163, 1176, 1219, 1293, 1356, 1379, 1412, 1455, 1498, 1511, 1524, 1537, 1560], 179)) (by decide +kernel) (by decide +kernel) (by decide +kernel) (by decide) ?_
                                    refine wm_aload_n 1 695 (by decide +kernel) rfl rfl ?_
                                    refine wm_aload_n 0 696 (by decide +kernel) rfl rfl ?_
                                    refine wm_iload_n 3 697 (by decide +kernel) rfl rfl ?_
                                    refine wm_iconst 1 698 (by decide +kernel : decode cL_law 697 = .ok (.iconst 1, 1)) rfl (by decide +kernel) ?_
                                    refine wm_iadd 699 (by decide +kernel) rfl ?_
                                    obtain ⟨o162, H⟩ := H
                                    refine wm_sald 700 (by decide +kernel) rfl o162 ?_
                                    refine wm_aload_n 0 701 (by decide +kernel) rfl rfl ?_
                                    refine wm_iload_n 3 702 (by decide +kernel) rfl rfl ?_
                                    refine wm_iconst 2 703 (by decide +kernel : decode cL_law 702 = .ok (.iconst 2, 1)) rfl (by decide +kernel) ?_
                                    refine wm_iadd 704 (by decide +kernel) rfl ?_
                                    obtain ⟨o163, H⟩ := H
                                    refine wm_sald 705 (by decide +kernel) rfl o163 ?_
                                    refine wm_aload_n 0 706 (by decide +kernel) rfl rfl ?_
                                    refine wm_iload_n 3 707 (by decide +kernel) rfl rfl ?_
                                    refine wm_iconst 3 708 (by decide +kernel : decode cL_law 707 = .ok (.iconst 3, 1)) rfl (by decide +kernel) ?_
                                    refine wm_iadd 709 (by decide +kernel) rfl ?_
                                    obtain ⟨o164, H⟩ := H
                                    refine wm_sald 710 (by decide +kernel) rfl o164 ?_
                                    refine wm_callVi mX7_near 3 7 [_, _, _] [] _ _ 713 mo_X7_near np_X7_near ml_RL_73 im_X7_near se_X7_near (by decide +kernel) (by decide +kernel) rfl rfl rfl (Nat.le_of_ble_eq_true rfl) (by decide +kernel) rfl (Nat.le_of_ble_eq_true rfl) _ (ent_pad 0 rfl) (l_X7_near g _ _ _ _ _ H) (fun v166 h165 H hzv166 => ?_)
                                    refine wm_aload_n 2 714 (by decide +kernel) rfl rfl ?_
                                    refine wm_aload_n 0 715 (by decide +kernel) rfl rfl ?_
                                    refine wm_iload_n 3 716 (by decide +kernel) rfl rfl ?_
                                    refine wm_iconst 1 717 (by decide +kernel : decode cL_law 716 = .ok (.iconst 1, 1)) rfl (by decide +kernel) ?_
                                    refine wm_iadd 718 (by decide +kernel) rfl ?_
                                    obtain ⟨o167, H⟩ := H
                                    refine wm_sald 719 (by decide +kernel) rfl o167 ?_
                                    refine wm_aload_n 0 720 (by decide +kernel) rfl rfl ?_
                                    refine wm_iload_n 3 721 (by decide +kernel) rfl rfl ?_
                                    refine wm_iconst 2 722 (by decide +kernel : decode cL_law 721 = .ok (.iconst 2, 1)) rfl (by decide +kernel) ?_
                                    refine wm_iadd 723 (by decide +kernel) rfl ?_
                                    obtain ⟨o168, H⟩ := H
                                    refine wm_sald 724 (by decide +kernel) rfl o168 ?_
                                    refine wm_aload_n 0 725 (by decide +kernel) rfl rfl ?_
                                    refine wm_iload_n 3 726 (by decide +kernel) rfl rfl ?_
                                    refine wm_iconst 3 727 (by decide +kernel : decode cL_law 726 = .ok (.iconst 3, 1)) rfl (by decide +kernel) ?_
                                    refine wm_iadd 728 (by decide +kernel) rfl ?_
                                    obtain ⟨o169, H⟩ := H
                                    refine wm_sald 729 (by decide +kernel) rfl o169 ?_
                                    refine wm_callVi mX8_near 3 8 [_, _, _] [_] _ _ 732 mo_X8_near np_X8_near ml_RL_76 im_X8_near se_X8_near (by decide +kernel) (by decide +kernel) rfl rfl rfl (Nat.le_of_ble_eq_true rfl) (by decide +kernel) rfl (Nat.le_of_ble_eq_true rfl) _ (ent_pad 2 rfl) (l_X8_near g _ _ _ _ _ H) (fun v171 h170 H hzv171 => ?_)
                                    refine wm_icmp_eq 735 1616 (by decide +kernel : decode cL_law 732 = .ok (.if_icmp .eq 884, 3)) (by decide) rfl (fun c172 => ?_) (fun c172 => ?_)
                                    · replace H := H.1 c172
                                      replace H := H _ rfl
                                      refine wm_iinc 3 (_ + 6) 1619 [some _, some _, some _, some _] (by decide +kernel : decode cL_law 1616 = .ok (.iinc 3 6, 3)) rfl (by decide +kernel) rfl (ofI_eq (by decide +kernel)) (okS_spec rfl) rfl ?_
                                      refine wm_goto 18 (by decide +kernel : decode cL_law 1619 = .ok (.goto (-1601), 3)) (by decide) ?_
                                      exact ih _ _ H
                                    · replace H := H.2 c172
                                      refine wm_iconst 0 736 (by decide +kernel : decode cL_law 735 = .ok (.iconst 0, 1)) rfl (by decide +kernel) ?_
                                      exact wm_iret (by decide +kernel) ⟨.boolean, rfl, (by decide +kernel)⟩ H
                                  · skip
                                    refine em_go H (fun c174 H => ?_) (fun c174 H => ?_)
                                    · refine wm_tin (off := 704) 15 737 c174 (by decide +kernel : decode cL_law 33 = .ok (.tableswitch 1583 0 40 #[179, 212, 275, 308, 341, 384, 427, 460, 493, 526, 549, 572, 605, 638, 661, 704, 747, 780, 813, 856, 889, 932, 955, 998, 1031, 1074, 1117, 1150, 1163, 1176, 1219, 1293, 1356, 1379, 1412, 1455, 1498, 1511, 1524, 1537, 1560], 179)) (by decide +kernel) (by decide +kernel) (by decide +kernel) (by decide) ?_
                                      refine wm_aload_n 1 738 (by decide +kernel) rfl rfl ?_
                                      refine wm_aload_n 0 739 (by decide +kernel) rfl rfl ?_
                                      refine wm_iload_n 3 740 (by decide +kernel) rfl rfl ?_
                                      refine wm_iconst 1 741 (by decide +kernel : decode cL_law 740 = .ok (.iconst 1, 1)) rfl (by decide +kernel) ?_
                                      refine wm_iadd 742 (by decide +kernel) rfl ?_
                                      obtain ⟨o175, H⟩ := H
                                      refine wm_sald 743 (by decide +kernel) rfl o175 ?_
                                      refine wm_aload_n 0 744 (by decide +kernel) rfl rfl ?_
                                      refine wm_iload_n 3 745 (by decide +kernel) rfl rfl ?_
                                      refine wm_iconst 2 746 (by decide +kernel : decode cL_law 745 = .ok (.iconst 2, 1)) rfl (by decide +kernel) ?_
                                      refine wm_iadd 747 (by decide +kernel) rfl ?_
                                      obtain ⟨o176, H⟩ := H
                                      refine wm_sald 748 (by decide +kernel) rfl o176 ?_
                                      refine wm_aload_n 0 749 (by decide +kernel) rfl rfl ?_
                                      refine wm_iload_n 3 750 (by decide +kernel) rfl rfl ?_
                                      refine wm_iconst 3 751 (by decide +kernel : decode cL_law 750 = .ok (.iconst 3, 1)) rfl (by decide +kernel) ?_
                                      refine wm_iadd 752 (by decide +kernel) rfl ?_
                                      obtain ⟨o177, H⟩ := H
                                      refine wm_sald 753 (by decide +kernel) rfl o177 ?_
                                      refine wm_callVi mX7_cost 3 7 [_, _, _] [] _ _ 756 mo_X7_cost np_X7_cost ml_RL_77 im_X7_cost se_X7_cost (by decide +kernel) (by decide +kernel) rfl rfl rfl (Nat.le_of_ble_eq_true rfl) (by decide +kernel) rfl (Nat.le_of_ble_eq_true rfl) _ (ent_pad 2 rfl) (l_X7_cost g _ _ _ _ _ H) (fun v179 h178 H hzv179 => ?_)
                                      refine wm_aload_n 2 757 (by decide +kernel) rfl rfl ?_
                                      refine wm_aload_n 0 758 (by decide +kernel) rfl rfl ?_
                                      refine wm_iload_n 3 759 (by decide +kernel) rfl rfl ?_
                                      refine wm_iconst 1 760 (by decide +kernel : decode cL_law 759 = .ok (.iconst 1, 1)) rfl (by decide +kernel) ?_
                                      refine wm_iadd 761 (by decide +kernel) rfl ?_
                                      obtain ⟨o180, H⟩ := H
                                      refine wm_sald 762 (by decide +kernel) rfl o180 ?_
                                      refine wm_aload_n 0 763 (by decide +kernel) rfl rfl ?_
                                      refine wm_iload_n 3 764 (by decide +kernel) rfl rfl ?_
                                      refine wm_iconst 2 765 (by decide +kernel : decode cL_law 764 = .ok (.iconst 2, 1)) rfl (by decide +kernel) ?_
                                      refine wm_iadd 766 (by decide +kernel) rfl ?_
                                      obtain ⟨o181, H⟩ := H
                                      refine wm_sald 767 (by decide +kernel) rfl o181 ?_
                                      refine wm_aload_n 0 768 (by decide +kernel) rfl rfl ?_
                                      refine wm_iload_n 3 769 (by decide +kernel) rfl rfl ?_
                                      refine wm_iconst 3 770 (by decide +kernel : decode cL_law 769 = .ok (.iconst 3, 1)) rfl (by decide +kernel) ?_
                                      refine wm_iadd 771 (by decide +kernel) rfl ?_
                                      obtain ⟨o182, H⟩ := H
                                      refine wm_sald 772 (by decide +kernel) rfl o182 ?_
                                      refine wm_callVi mX8_cost 3 8 [_, _, _] [_] _ _ 775 mo_X8_cost np_X8_cost ml_RL_80 im_X8_cost se_X8_cost (by decide +kernel) (by decide +kernel) rfl rfl rfl (Nat.le_of_ble_eq_true rfl) (by decide +kernel) rfl (Nat.le_of_ble_eq_true rfl) _ (ent_pad 3 rfl) (l_X8_cost g _ _ _ _ _ H) (fun v184 h183 H hzv184 => ?_)
                                      refine wm_icmp_eq 778 1616 (by decide +kernel : decode cL_law 775 = .ok (.if_icmp .eq 841, 3)) (by decide) rfl (fun c185 => ?_) (fun c185 => ?_)
                                      · replace H := H.1 c185
                                        replace H := H _ rfl
                                        refine wm_iinc 3 (_ + 6) 1619 [some _, some _, some _, some _] (by decide +kernel : decode cL_law 1616 = .ok (.iinc 3 6, 3)) rfl (by decide +kernel) rfl (ofI_eq (by decide +kernel)) (okS_spec rfl) rfl ?_
                                        refine wm_goto 18 (by decide +kernel : decode cL_law 1619 = .ok (.goto (-1601), 3)) (by decide) ?_
                                        exact ih _ _ H
                                      · replace H := H.2 c185
                                        refine wm_iconst 0 779 (by decide +kernel : decode cL_law 778 = .ok (.iconst 0, 1)) rfl (by decide +kernel) ?_
                                        exact wm_iret (by decide +kernel) ⟨.boolean, rfl, (by decide +kernel)⟩ H
                                    · skip
                                      refine em_go H (fun c187 H => ?_) (fun c187 H => ?_)
                                      · refine wm_tin (off := 747) 16 780 c187 (by decide +kernel : decode cL_law 33 = .ok (.tableswitch 1583 0 40 #[179, 212, 275, 308, 341, 384, 427, 460, 493, 526, 549, 572, 605, 638, 661, 704, 747, 780, 813, 856, 889, 932, 955, 998, 1031, 1074, 1117, 1150, 1163, 1176, 1219, 1293, 1356, 1379, 1412, 1455, 1498, 1511, 1524, 1537, 1560], 179)) (by decide +kernel) (by decide +kernel) (by decide +kernel) (by decide) ?_
                                        refine wm_aload_n 1 781 (by decide +kernel) rfl rfl ?_
                                        refine wm_aload_n 0 782 (by decide +kernel) rfl rfl ?_
                                        refine wm_iload_n 3 783 (by decide +kernel) rfl rfl ?_
                                        refine wm_iconst 1 784 (by decide +kernel : decode cL_law 783 = .ok (.iconst 1, 1)) rfl (by decide +kernel) ?_
                                        refine wm_iadd 785 (by decide +kernel) rfl ?_
                                        obtain ⟨o188, H⟩ := H
                                        refine wm_sald 786 (by decide +kernel) rfl o188 ?_
                                        refine wm_aload_n 0 787 (by decide +kernel) rfl rfl ?_
                                        refine wm_iload_n 3 788 (by decide +kernel) rfl rfl ?_
                                        refine wm_iconst 2 789 (by decide +kernel : decode cL_law 788 = .ok (.iconst 2, 1)) rfl (by decide +kernel) ?_
                                        refine wm_iadd 790 (by decide +kernel) rfl ?_
                                        obtain ⟨o189, H⟩ := H
                                        refine wm_sald 791 (by decide +kernel) rfl o189 ?_
                                        refine wm_callVi mX7_lose 2 7 [_, _] [] _ _ 794 mo_X7_lose np_X7_lose ml_RL_81 im_X7_lose se_X7_lose (by decide +kernel) (by decide +kernel) rfl rfl rfl (Nat.le_of_ble_eq_true rfl) (by decide +kernel) rfl (Nat.le_of_ble_eq_true rfl) _ (ent_pad 5 rfl) (l_X7_lose g _ _ _ _ H) (fun v191 h190 H hzv191 => ?_)
                                        refine wm_aload_n 2 795 (by decide +kernel) rfl rfl ?_
                                        refine wm_aload_n 0 796 (by decide +kernel) rfl rfl ?_
                                        refine wm_iload_n 3 797 (by decide +kernel) rfl rfl ?_
                                        refine wm_iconst 1 798 (by decide +kernel : decode cL_law 797 = .ok (.iconst 1, 1)) rfl (by decide +kernel) ?_
                                        refine wm_iadd 799 (by decide +kernel) rfl ?_
                                        obtain ⟨o192, H⟩ := H
                                        refine wm_sald 800 (by decide +kernel) rfl o192 ?_
                                        refine wm_aload_n 0 801 (by decide +kernel) rfl rfl ?_
                                        refine wm_iload_n 3 802 (by decide +kernel) rfl rfl ?_
                                        refine wm_iconst 2 803 (by decide +kernel : decode cL_law 802 = .ok (.iconst 2, 1)) rfl (by decide +kernel) ?_
                                        refine wm_iadd 804 (by decide +kernel) rfl ?_
                                        obtain ⟨o193, H⟩ := H
                                        refine wm_sald 805 (by decide +kernel) rfl o193 ?_
                                        refine wm_callVi mX8_lose 2 8 [_, _] [_] _ _ 808 mo_X8_lose np_X8_lose ml_RL_84 im_X8_lose se_X8_lose (by decide +kernel) (by decide +kernel) rfl rfl rfl (Nat.le_of_ble_eq_true rfl) (by decide +kernel) rfl (Nat.le_of_ble_eq_true rfl) _ (ent_pad 4 rfl) (l_X8_lose g _ _ _ _ H) (fun v195 h194 H hzv195 => ?_)
                                        refine wm_icmp_eq 811 1616 (by decide +kernel : decode cL_law 808 = .ok (.if_icmp .eq 808, 3)) (by decide) rfl (fun c196 => ?_) (fun c196 => ?_)
                                        · replace H := H.1 c196
                                          replace H := H _ rfl
                                          refine wm_iinc 3 (_ + 6) 1619 [some _, some _, some _, some _] (by decide +kernel : decode cL_law 1616 = .ok (.iinc 3 6, 3)) rfl (by decide +kernel) rfl (ofI_eq (by decide +kernel)) (okS_spec rfl) rfl ?_
                                          refine wm_goto 18 (by decide +kernel : decode cL_law 1619 = .ok (.goto (-1601), 3)) (by decide) ?_
                                          exact ih _ _ H
                                        · replace H := H.2 c196
                                          refine wm_iconst 0 812 (by decide +kernel : decode cL_law 811 = .ok (.iconst 0, 1)) rfl (by decide +kernel) ?_
                                          exact wm_iret (by decide +kernel) ⟨.boolean, rfl, (by decide +kernel)⟩ H
                                      · skip
                                        refine em_go H (fun c198 H => ?_) (fun c198 H => ?_)
                                        · refine wm_tin (off := 780) 17 813 c198 (by decide +kernel : decode cL_law 33 = .ok (.tableswitch 1583 0 40 #[179, 212, 275, 308, 341, 384, 427, 460, 493, 526, 549, 572, 605, 638, 661, 704, 747, 780, 813, 856, 889, 932, 955, 998, 1031, 1074, 1117, 1150, 1163, 1176, 1219, 1293, 1356, 1379, 1412, 1455, 1498, 1511, 1524, 1537, 1560], 179)) (by decide +kernel) (by decide +kernel) (by decide +kernel) (by decide) ?_
                                          refine wm_aload_n 1 814 (by decide +kernel) rfl rfl ?_
                                          refine wm_aload_n 0 815 (by decide +kernel) rfl rfl ?_
                                          refine wm_iload_n 3 816 (by decide +kernel) rfl rfl ?_
                                          refine wm_iconst 1 817 (by decide +kernel : decode cL_law 816 = .ok (.iconst 1, 1)) rfl (by decide +kernel) ?_
                                          refine wm_iadd 818 (by decide +kernel) rfl ?_
                                          obtain ⟨o199, H⟩ := H
                                          refine wm_sald 819 (by decide +kernel) rfl o199 ?_
                                          refine wm_aload_n 0 820 (by decide +kernel) rfl rfl ?_
                                          refine wm_iload_n 3 821 (by decide +kernel) rfl rfl ?_
                                          refine wm_iconst 2 822 (by decide +kernel : decode cL_law 821 = .ok (.iconst 2, 1)) rfl (by decide +kernel) ?_
                                          refine wm_iadd 823 (by decide +kernel) rfl ?_
                                          obtain ⟨o200, H⟩ := H
                                          refine wm_sald 824 (by decide +kernel) rfl o200 ?_
                                          refine wm_callVi mX7_widen 2 7 [_, _] [] _ _ 827 mo_X7_widen np_X7_widen ml_RL_85 im_X7_widen se_X7_widen (by decide +kernel) (by decide +kernel) rfl rfl rfl (Nat.le_of_ble_eq_true rfl) (by decide +kernel) rfl (Nat.le_of_ble_eq_true rfl) _ (ent_pad 5 rfl) (l_X7_widen g _ _ _ _ H) (fun v202 h201 H hzv202 => ?_)
                                          refine wm_aload_n 2 828 (by decide +kernel) rfl rfl ?_
                                          refine wm_aload_n 0 829 (by decide +kernel) rfl rfl ?_
                                          refine wm_iload_n 3 830 (by decide +kernel) rfl rfl ?_
                                          refine wm_iconst 1 831 (by decide +kernel : decode cL_law 830 = .ok (.iconst 1, 1)) rfl (by decide +kernel) ?_
                                          refine wm_iadd 832 (by decide +kernel) rfl ?_
                                          obtain ⟨o203, H⟩ := H
                                          refine wm_sald 833 (by decide +kernel) rfl o203 ?_
                                          refine wm_aload_n 0 834 (by decide +kernel) rfl rfl ?_
                                          refine wm_iload_n 3 835 (by decide +kernel) rfl rfl ?_
                                          refine wm_iconst 2 836 (by decide +kernel : decode cL_law 835 = .ok (.iconst 2, 1)) rfl (by decide +kernel) ?_
                                          refine wm_iadd 837 (by decide +kernel) rfl ?_
                                          obtain ⟨o204, H⟩ := H
                                          refine wm_sald 838 (by decide +kernel) rfl o204 ?_
                                          refine wm_callVi mX8_widen 2 8 [_, _] [_] _ _ 841 mo_X8_widen np_X8_widen ml_RL_88 im_X8_widen se_X8_widen (by decide +kernel) (by decide +kernel) rfl rfl rfl (Nat.le_of_ble_eq_true rfl) (by decide +kernel) rfl (Nat.le_of_ble_eq_true rfl) _ (ent_pad 4 rfl) (l_X8_widen g _ _ _ _ H) (fun v206 h205 H hzv206 => ?_)
                                          refine wm_icmp_eq 844 1616 (by decide +kernel : decode cL_law 841 = .ok (.if_icmp .eq 775, 3)) (by decide) rfl (fun c207 => ?_) (fun c207 => ?_)
                                          · replace H := H.1 c207
                                            replace H := H _ rfl
                                            refine wm_iinc 3 (_ + 6) 1619 [some _, some _, some _, some _] (by decide +kernel : decode cL_law 1616 = .ok (.iinc 3 6, 3)) rfl (by decide +kernel) rfl (ofI_eq (by decide +kernel)) (okS_spec rfl) rfl ?_
                                            refine wm_goto 18 (by decide +kernel : decode cL_law 1619 = .ok (.goto (-1601), 3)) (by decide) ?_
                                            exact ih _ _ H
                                          · replace H := H.2 c207
                                            refine wm_iconst 0 845 (by decide +kernel : decode cL_law 844 = .ok (.iconst 0, 1)) rfl (by decide +kernel) ?_
                                            exact wm_iret (by decide +kernel) ⟨.boolean, rfl, (by decide +kernel)⟩ H
                                        · skip
                                          refine em_go H (fun c209 H => ?_) (fun c209 H => ?_)
                                          · refine wm_tin (off := 813) 18 846 c209 (by decide +kernel : decode cL_law 33 = .ok (.tableswitch 1583 0 40 #[179, 212, 275, 308, 341, 384, 427, 460, 493, 526, 549, 572, 605, 638, 661, 704, 747, 780, 813, 856, 889, 932, 955, 998, 1031, 1074, 1117, 1150, 1163, 1176, 1219, 1293, 1356, 1379, 1412, 1455, 1498, 1511, 1524, 1537, 1560], 179)) (by decide +kernel) (by decide +kernel) (by decide +kernel) (by decide) ?_
                                            refine wm_aload_n 1 847 (by decide +kernel) rfl rfl ?_
                                            refine wm_aload_n 0 848 (by decide +kernel) rfl rfl ?_
                                            refine wm_iload_n 3 849 (by decide +kernel) rfl rfl ?_
                                            refine wm_iconst 1 850 (by decide +kernel : decode cL_law 849 = .ok (.iconst 1, 1)) rfl (by decide +kernel) ?_
                                            refine wm_iadd 851 (by decide +kernel) rfl ?_
                                            obtain ⟨o210, H⟩ := H
                                            refine wm_sald 852 (by decide +kernel) rfl o210 ?_
                                            refine wm_aload_n 0 853 (by decide +kernel) rfl rfl ?_
                                            refine wm_iload_n 3 854 (by decide +kernel) rfl rfl ?_
                                            refine wm_iconst 2 855 (by decide +kernel : decode cL_law 854 = .ok (.iconst 2, 1)) rfl (by decide +kernel) ?_
                                            refine wm_iadd 856 (by decide +kernel) rfl ?_
                                            obtain ⟨o211, H⟩ := H
                                            refine wm_sald 857 (by decide +kernel) rfl o211 ?_
                                            refine wm_aload_n 0 858 (by decide +kernel) rfl rfl ?_
                                            refine wm_iload_n 3 859 (by decide +kernel) rfl rfl ?_
                                            refine wm_iconst 3 860 (by decide +kernel : decode cL_law 859 = .ok (.iconst 3, 1)) rfl (by decide +kernel) ?_
                                            refine wm_iadd 861 (by decide +kernel) rfl ?_
                                            obtain ⟨o212, H⟩ := H
                                            refine wm_sald 862 (by decide +kernel) rfl o212 ?_
                                            refine wm_callVi mX7_held 3 7 [_, _, _] [] _ _ 865 mo_X7_held np_X7_held ml_RL_89 im_X7_held se_X7_held (by decide +kernel) (by decide +kernel) rfl rfl rfl (Nat.le_of_ble_eq_true rfl) (by decide +kernel) rfl (Nat.le_of_ble_eq_true rfl) _ (ent_pad 5 rfl) (l_X7_held g _ _ _ _ _ H) (fun v214 h213 H hzv214 => ?_)
                                            refine wm_aload_n 2 866 (by decide +kernel) rfl rfl ?_
                                            refine wm_aload_n 0 867 (by decide +kernel) rfl rfl ?_
                                            refine wm_iload_n 3 868 (by decide +kernel) rfl rfl ?_
                                            refine wm_iconst 1 869 (by decide +kernel : decode cL_law 868 = .ok (.iconst 1, 1)) rfl (by decide +kernel) ?_
                                            refine wm_iadd 870 (by decide +kernel) rfl ?_
                                            obtain ⟨o215, H⟩ := H
                                            refine wm_sald 871 (by decide +kernel) rfl o215 ?_
                                            refine wm_aload_n 0 872 (by decide +kernel) rfl rfl ?_
                                            refine wm_iload_n 3 873 (by decide +kernel) rfl rfl ?_
                                            refine wm_iconst 2 874 (by decide +kernel : decode cL_law 873 = .ok (.iconst 2, 1)) rfl (by decide +kernel) ?_
                                            refine wm_iadd 875 (by decide +kernel) rfl ?_
                                            obtain ⟨o216, H⟩ := H
                                            refine wm_sald 876 (by decide +kernel) rfl o216 ?_
                                            refine wm_aload_n 0 877 (by decide +kernel) rfl rfl ?_
                                            refine wm_iload_n 3 878 (by decide +kernel) rfl rfl ?_
                                            refine wm_iconst 3 879 (by decide +kernel : decode cL_law 878 = .ok (.iconst 3, 1)) rfl (by decide +kernel) ?_
                                            refine wm_iadd 880 (by decide +kernel) rfl ?_
                                            obtain ⟨o217, H⟩ := H
                                            refine wm_sald 881 (by decide +kernel) rfl o217 ?_
                                            refine wm_callVi mX8_held 3 8 [_, _, _] [_] _ _ 884 mo_X8_held np_X8_held ml_RL_92 im_X8_held se_X8_held (by decide +kernel) (by decide +kernel) rfl rfl rfl (Nat.le_of_ble_eq_true rfl) (by decide +kernel) rfl (Nat.le_of_ble_eq_true rfl) _ (ent_pad 4 rfl) (l_X8_held g _ _ _ _ _ H) (fun v219 h218 H hzv219 => ?_)
                                            refine wm_icmp_eq 887 1616 (by decide +kernel : decode cL_law 884 = .ok (.if_icmp .eq 732, 3)) (by decide) rfl (fun c220 => ?_) (fun c220 => ?_)
                                            · replace H := H.1 c220
                                              replace H := H _ rfl
                                              refine wm_iinc 3 (_ + 6) 1619 [some _, some _, some _, some _] (by decide +kernel : decode cL_law 1616 = .ok (.iinc 3 6, 3)) rfl (by decide +kernel) rfl (ofI_eq (by decide +kernel)) (okS_spec rfl) rfl ?_
                                              refine wm_goto 18 (by decide +kernel : decode cL_law 1619 = .ok (.goto (-1601), 3)) (by decide) ?_
                                              exact ih _ _ H
                                            · replace H := H.2 c220
                                              refine wm_iconst 0 888 (by decide +kernel : decode cL_law 887 = .ok (.iconst 0, 1)) rfl (by decide +kernel) ?_
                                              exact wm_iret (by decide +kernel) ⟨.boolean, rfl, (by decide +kernel)⟩ H
                                          · skip
                                            refine em_go H (fun c222 H => ?_) (fun c222 H => ?_)
                                            · refine wm_tin (off := 856) 19 889 c222 (by decide +kernel : decode cL_law 33 = .ok (.tableswitch 1583 0 40 #[179, 212, 275, 308, 341, 384, 427, 460, 493, 526, 549, 572, 605, 638, 661, 704, 747, 780, 813, 856, 889, 932, 955, 998, 1031, 1074, 1117, 1150, 1163, 1176, 1219, 1293, 1356, 1379, 1412, 1455, 1498, 1511, 1524, 1537, 1560], 179)) (by decide +kernel) (by decide +kernel) (by decide +kernel) (by decide) ?_
                                              refine wm_aload_n 1 890 (by decide +kernel) rfl rfl ?_
                                              refine wm_aload_n 0 891 (by decide +kernel) rfl rfl ?_
                                              refine wm_iload_n 3 892 (by decide +kernel) rfl rfl ?_
                                              refine wm_iconst 1 893 (by decide +kernel : decode cL_law 892 = .ok (.iconst 1, 1)) rfl (by decide +kernel) ?_
                                              refine wm_iadd 894 (by decide +kernel) rfl ?_
                                              obtain ⟨o223, H⟩ := H
                                              refine wm_sald 895 (by decide +kernel) rfl o223 ?_
                                              refine wm_aload_n 0 896 (by decide +kernel) rfl rfl ?_
                                              refine wm_iload_n 3 897 (by decide +kernel) rfl rfl ?_
                                              refine wm_iconst 2 898 (by decide +kernel : decode cL_law 897 = .ok (.iconst 2, 1)) rfl (by decide +kernel) ?_
                                              refine wm_iadd 899 (by decide +kernel) rfl ?_
                                              obtain ⟨o224, H⟩ := H
                                              refine wm_sald 900 (by decide +kernel) rfl o224 ?_
                                              refine wm_callVi mX7_begin 2 7 [_, _] [] _ _ 903 mo_X7_begin np_X7_begin ml_RL_93 im_X7_begin se_X7_begin (by decide +kernel) (by decide +kernel) rfl rfl rfl (Nat.le_of_ble_eq_true rfl) (by decide +kernel) rfl (Nat.le_of_ble_eq_true rfl) _ (ent_pad 1 rfl) (l_X7_begin g _ _ _ _ H) (fun v226 h225 H hzv226 => ?_)
                                              refine wm_aload_n 2 904 (by decide +kernel) rfl rfl ?_
                                              refine wm_aload_n 0 905 (by decide +kernel) rfl rfl ?_
                                              refine wm_iload_n 3 906 (by decide +kernel) rfl rfl ?_
                                              refine wm_iconst 1 907 (by decide +kernel : decode cL_law 906 = .ok (.iconst 1, 1)) rfl (by decide +kernel) ?_
                                              refine wm_iadd 908 (by decide +kernel) rfl ?_
                                              obtain ⟨o227, H⟩ := H
                                              refine wm_sald 909 (by decide +kernel) rfl o227 ?_
                                              refine wm_aload_n 0 910 (by decide +kernel) rfl rfl ?_
                                              refine wm_iload_n 3 911 (by decide +kernel) rfl rfl ?_
                                              refine wm_iconst 2 912 (by decide +kernel : decode cL_law 911 = .ok (.iconst 2, 1)) rfl (by decide +kernel) ?_
                                              refine wm_iadd 913 (by decide +kernel) rfl ?_
                                              obtain ⟨o228, H⟩ := H
                                              refine wm_sald 914 (by decide +kernel) rfl o228 ?_
                                              refine wm_callVi mX8_begin 2 8 [_, _] [_] _ _ 917 mo_X8_begin np_X8_begin ml_RL_96 im_X8_begin se_X8_begin (by decide +kernel) (by decide +kernel) rfl rfl rfl (Nat.le_of_ble_eq_true rfl) (by decide +kernel) rfl (Nat.le_of_ble_eq_true rfl) _ (ent_pad 3 rfl) (l_X8_begin g _ _ _ _ H) (fun v230 h229 H hzv230 => ?_)
                                              refine wm_icmp_eq 920 1616 (by decide +kernel : decode cL_law 917 = .ok (.if_icmp .eq 699, 3)) (by decide) rfl (fun c231 => ?_) (fun c231 => ?_)
                                              · replace H := H.1 c231
                                                replace H := H _ rfl
                                                refine wm_iinc 3 (_ + 6) 1619 [some _, some _, some _, some _] (by decide +kernel : decode cL_law 1616 = .ok (.iinc 3 6, 3)) rfl (by decide +kernel) rfl (ofI_eq (by decide +kernel)) (okS_spec rfl) rfl ?_
                                                refine wm_goto 18 (by decide +kernel : decode cL_law 1619 = .ok (.goto (-1601), 3)) (by decide) ?_
                                                exact ih _ _ H
                                              · replace H := H.2 c231
                                                refine wm_iconst 0 921 (by decide +kernel : decode cL_law 920 = .ok (.iconst 0, 1)) rfl (by decide +kernel) ?_
                                                exact wm_iret (by decide +kernel) ⟨.boolean, rfl, (by decide +kernel)⟩ H
                                            · skip
                                              refine em_go H (fun c233 H => ?_) (fun c233 H => ?_)
                                              · refine wm_tin (off := 889) 20 922 c233 (by decide +kernel : decode cL_law 33 = .ok (.tableswitch 1583 0 40 #[179, 212, 275, 308, 341, 384, 427, 460, 493, 526, 549, 572, 605, 638, 661, 704, 747, 780, 813, 856, 889, 932, 955, 998, 1031, 1074, 1117, 1150, 1163, 1176, 1219, 1293, 1356, 1379, 1412, 1455, 1498, 1511, 1524, 1537, 1560], 179)) (by decide +kernel) (by decide +kernel) (by decide +kernel) (by decide) ?_
                                                refine wm_aload_n 1 923 (by decide +kernel) rfl rfl ?_
                                                refine wm_aload_n 0 924 (by decide +kernel) rfl rfl ?_
                                                refine wm_iload_n 3 925 (by decide +kernel) rfl rfl ?_
                                                refine wm_iconst 1 926 (by decide +kernel : decode cL_law 925 = .ok (.iconst 1, 1)) rfl (by decide +kernel) ?_
                                                refine wm_iadd 927 (by decide +kernel) rfl ?_
                                                obtain ⟨o234, H⟩ := H
                                                refine wm_sald 928 (by decide +kernel) rfl o234 ?_
                                                refine wm_aload_n 0 929 (by decide +kernel) rfl rfl ?_
                                                refine wm_iload_n 3 930 (by decide +kernel) rfl rfl ?_
                                                refine wm_iconst 2 931 (by decide +kernel : decode cL_law 930 = .ok (.iconst 2, 1)) rfl (by decide +kernel) ?_
                                                refine wm_iadd 932 (by decide +kernel) rfl ?_
                                                obtain ⟨o235, H⟩ := H
                                                refine wm_sald 933 (by decide +kernel) rfl o235 ?_
                                                refine wm_aload_n 0 934 (by decide +kernel) rfl rfl ?_
                                                refine wm_iload_n 3 935 (by decide +kernel) rfl rfl ?_
                                                refine wm_iconst 3 936 (by decide +kernel : decode cL_law 935 = .ok (.iconst 3, 1)) rfl (by decide +kernel) ?_
                                                refine wm_iadd 937 (by decide +kernel) rfl ?_
                                                obtain ⟨o236, H⟩ := H
                                                refine wm_sald 938 (by decide +kernel) rfl o236 ?_
                                                refine wm_callVi mX7_kind 3 7 [_, _, _] [] _ _ 941 mo_X7_kind np_X7_kind ml_RL_97 im_X7_kind se_X7_kind (by decide +kernel) (by decide +kernel) rfl rfl rfl (Nat.le_of_ble_eq_true rfl) (by decide +kernel) rfl (Nat.le_of_ble_eq_true rfl) _ (ent_pad 4 rfl) (l_X7_kind g _ _ _ _ _ H) (fun v238 h237 H hzv238 => ?_)
                                                refine wm_aload_n 2 942 (by decide +kernel) rfl rfl ?_
                                                refine wm_aload_n 0 943 (by decide +kernel) rfl rfl ?_
                                                refine wm_iload_n 3 944 (by decide +kernel) rfl rfl ?_
                                                refine wm_iconst 1 945 (by decide +kernel : decode cL_law 944 = .ok (.iconst 1, 1)) rfl (by decide +kernel) ?_
                                                refine wm_iadd 946 (by decide +kernel) rfl ?_
                                                obtain ⟨o239, H⟩ := H
                                                refine wm_sald 947 (by decide +kernel) rfl o239 ?_
                                                refine wm_aload_n 0 948 (by decide +kernel) rfl rfl ?_
                                                refine wm_iload_n 3 949 (by decide +kernel) rfl rfl ?_
                                                refine wm_iconst 2 950 (by decide +kernel : decode cL_law 949 = .ok (.iconst 2, 1)) rfl (by decide +kernel) ?_
                                                refine wm_iadd 951 (by decide +kernel) rfl ?_
                                                obtain ⟨o240, H⟩ := H
                                                refine wm_sald 952 (by decide +kernel) rfl o240 ?_
                                                refine wm_aload_n 0 953 (by decide +kernel) rfl rfl ?_
                                                refine wm_iload_n 3 954 (by decide +kernel) rfl rfl ?_
                                                refine wm_iconst 3 955 (by decide +kernel : decode cL_law 954 = .ok (.iconst 3, 1)) rfl (by decide +kernel) ?_
                                                refine wm_iadd 956 (by decide +kernel) rfl ?_
                                                obtain ⟨o241, H⟩ := H
                                                refine wm_sald 957 (by decide +kernel) rfl o241 ?_
                                                refine wm_callVi mX8_kind 3 8 [_, _, _] [_] _ _ 960 mo_X8_kind np_X8_kind ml_RL_100 im_X8_kind se_X8_kind (by decide +kernel) (by decide +kernel) rfl rfl rfl (Nat.le_of_ble_eq_true rfl) (by decide +kernel) rfl (Nat.le_of_ble_eq_true rfl) _ (ent_pad 5 rfl) (l_X8_kind g _ _ _ _ _ H) (fun v243 h242 H hzv243 => ?_)
                                                refine wm_icmp_eq 963 1616 (by decide +kernel : decode cL_law 960 = .ok (.if_icmp .eq 656, 3)) (by decide) rfl (fun c244 => ?_) (fun c244 => ?_)
                                                · replace H := H.1 c244
                                                  replace H := H _ rfl
                                                  refine wm_iinc 3 (_ + 6) 1619 [some _, some _, some _, some _] (by decide +kernel : decode cL_law 1616 = .ok (.iinc 3 6, 3)) rfl (by decide +kernel) rfl (ofI_eq (by decide +kernel)) (okS_spec rfl) rfl ?_
                                                  refine wm_goto 18 (by decide +kernel : decode cL_law 1619 = .ok (.goto (-1601), 3)) (by decide) ?_
                                                  exact ih _ _ H
                                                · replace H := H.2 c244
                                                  refine wm_iconst 0 964 (by decide +kernel : decode cL_law 963 = .ok (.iconst 0, 1)) rfl (by decide +kernel) ?_
                                                  exact wm_iret (by decide +kernel) ⟨.boolean, rfl, (by decide +kernel)⟩ H
                                              · skip
                                                refine em_go H (fun c246 H => ?_) (fun c246 H => ?_)
                                                · refine wm_tin (off := 932) 21 965 c246 (by decide +kernel : decode cL_law 33 = .ok (.tableswitch 1583 0 40 #[179, 212, 275, 308, 341, 384, 427, 460, 493, 526, 549, 572, 605, 638, 661, 704, 747, 780, 813, 856, 889, 932, 955, 998, 1031, 1074, 1117, 1150, 1163, 1176, 1219, 1293, 1356, 1379, 1412, 1455, 1498, 1511, 1524, 1537, 1560], 179)) (by decide +kernel) (by decide +kernel) (by decide +kernel) (by decide) ?_
                                                  refine wm_aload_n 1 966 (by decide +kernel) rfl rfl ?_
                                                  refine wm_aload_n 0 967 (by decide +kernel) rfl rfl ?_
                                                  refine wm_iload_n 3 968 (by decide +kernel) rfl rfl ?_
                                                  refine wm_iconst 1 969 (by decide +kernel : decode cL_law 968 = .ok (.iconst 1, 1)) rfl (by decide +kernel) ?_
                                                  refine wm_iadd 970 (by decide +kernel) rfl ?_
                                                  obtain ⟨o247, H⟩ := H
                                                  refine wm_sald 971 (by decide +kernel) rfl o247 ?_
                                                  refine wm_callVi mX7_goal 1 7 [_] [] _ _ 974 mo_X7_goal np_X7_goal ml_RL_101 im_X7_goal se_X7_goal (by decide +kernel) (by decide +kernel) rfl rfl rfl (Nat.le_of_ble_eq_true rfl) (by decide +kernel) rfl (Nat.le_of_ble_eq_true rfl) _ (ent_pad 4 rfl) (l_X7_goal g _ _ _ H) (fun v249 h248 H hzv249 => ?_)
                                                  refine wm_aload_n 2 975 (by decide +kernel) rfl rfl ?_
                                                  refine wm_aload_n 0 976 (by decide +kernel) rfl rfl ?_
                                                  refine wm_iload_n 3 977 (by decide +kernel) rfl rfl ?_
                                                  refine wm_iconst 1 978 (by decide +kernel : decode cL_law 977 = .ok (.iconst 1, 1)) rfl (by decide +kernel) ?_
                                                  refine wm_iadd 979 (by decide +kernel) rfl ?_
                                                  obtain ⟨o250, H⟩ := H
                                                  refine wm_sald 980 (by decide +kernel) rfl o250 ?_
                                                  refine wm_callVi mX8_goal 1 8 [_] [_] _ _ 983 mo_X8_goal np_X8_goal ml_RL_104 im_X8_goal se_X8_goal (by decide +kernel) (by decide +kernel) rfl rfl rfl (Nat.le_of_ble_eq_true rfl) (by decide +kernel) rfl (Nat.le_of_ble_eq_true rfl) _ (ent_pad 4 rfl) (l_X8_goal g _ _ _ H) (fun v252 h251 H hzv252 => ?_)
                                                  refine wm_icmp_eq 986 1616 (by decide +kernel : decode cL_law 983 = .ok (.if_icmp .eq 633, 3)) (by decide) rfl (fun c253 => ?_) (fun c253 => ?_)
                                                  · replace H := H.1 c253
                                                    replace H := H _ rfl
                                                    refine wm_iinc 3 (_ + 6) 1619 [some _, some _, some _, some _] (by decide +kernel : decode cL_law 1616 = .ok (.iinc 3 6, 3)) rfl (by decide +kernel) rfl (ofI_eq (by decide +kernel)) (okS_spec rfl) rfl ?_
                                                    refine wm_goto 18 (by decide +kernel : decode cL_law 1619 = .ok (.goto (-1601), 3)) (by decide) ?_
                                                    exact ih _ _ H
                                                  · replace H := H.2 c253
                                                    refine wm_iconst 0 987 (by decide +kernel : decode cL_law 986 = .ok (.iconst 0, 1)) rfl (by decide +kernel) ?_
                                                    exact wm_iret (by decide +kernel) ⟨.boolean, rfl, (by decide +kernel)⟩ H
                                                · skip
                                                  refine em_go H (fun c255 H => ?_) (fun c255 H => ?_)
                                                  · refine wm_tin (off := 955) 22 988 c255 (by decide +kernel : decode cL_law 33 = .ok (.tableswitch 1583 0 40 #[179, 212, 275, 308, 341, 384, 427, 460, 493, 526, 549, 572, 605, 638, 661, 704, 747, 780, 813, 856, 889, 932, 955, 998, 1031, 1074, 1117, 1150, 1163, 1176, 1219, 1293, 1356, 1379, 1412, 1455, 1498, 1511, 1524, 1537, 1560], 179)) (by decide +kernel) (by decide +kernel) (by decide +kernel) (by decide) ?_
                                                    refine wm_aload_n 1 989 (by decide +kernel) rfl rfl ?_
                                                    refine wm_aload_n 0 990 (by decide +kernel) rfl rfl ?_
                                                    refine wm_iload_n 3 991 (by decide +kernel) rfl rfl ?_
                                                    refine wm_iconst 1 992 (by decide +kernel : decode cL_law 991 = .ok (.iconst 1, 1)) rfl (by decide +kernel) ?_
                                                    refine wm_iadd 993 (by decide +kernel) rfl ?_
                                                    obtain ⟨o256, H⟩ := H
                                                    refine wm_sald 994 (by decide +kernel) rfl o256 ?_
                                                    refine wm_aload_n 0 995 (by decide +kernel) rfl rfl ?_
                                                    refine wm_iload_n 3 996 (by decide +kernel) rfl rfl ?_
                                                    refine wm_iconst 2 997 (by decide +kernel : decode cL_law 996 = .ok (.iconst 2, 1)) rfl (by decide +kernel) ?_
                                                    refine wm_iadd 998 (by decide +kernel) rfl ?_
                                                    obtain ⟨o257, H⟩ := H
                                                    refine wm_sald 999 (by decide +kernel) rfl o257 ?_
                                                    refine wm_aload_n 0 1000 (by decide +kernel) rfl rfl ?_
                                                    refine wm_iload_n 3 1001 (by decide +kernel) rfl rfl ?_
                                                    refine wm_iconst 3 1002 (by decide +kernel : decode cL_law 1001 = .ok (.iconst 3, 1)) rfl (by decide +kernel) ?_
                                                    refine wm_iadd 1003 (by decide +kernel) rfl ?_
                                                    obtain ⟨o258, H⟩ := H
                                                    refine wm_sald 1004 (by decide +kernel) rfl o258 ?_
                                                    refine wm_callVi mX7_steady 3 7 [_, _, _] [] _ _ 1007 mo_X7_steady np_X7_steady ml_RL_105 im_X7_steady se_X7_steady (by decide +kernel) (by decide +kernel) rfl rfl rfl (Nat.le_of_ble_eq_true rfl) (by decide +kernel) rfl (Nat.le_of_ble_eq_true rfl) _ (ent_pad 2 rfl) (l_X7_steady g _ _ _ _ _ H) (fun v260 h259 H hzv260 => ?_)
                                                    refine wm_aload_n 2 1008 (by decide +kernel) rfl rfl ?_
                                                    refine wm_aload_n 0 1009 (by decide +kernel) rfl rfl ?_
                                                    refine wm_iload_n 3 1010 (by decide +kernel) rfl rfl ?_
                                                    refine wm_iconst 1 1011 (by decide +kernel : decode cL_law 1010 = .ok (.iconst 1, 1)) rfl (by decide +kernel) ?_
                                                    refine wm_iadd 1012 (by decide +kernel) rfl ?_
                                                    obtain ⟨o261, H⟩ := H
                                                    refine wm_sald 1013 (by decide +kernel) rfl o261 ?_
                                                    refine wm_aload_n 0 1014 (by decide +kernel) rfl rfl ?_
                                                    refine wm_iload_n 3 1015 (by decide +kernel) rfl rfl ?_
                                                    refine wm_iconst 2 1016 (by decide +kernel : decode cL_law 1015 = .ok (.iconst 2, 1)) rfl (by decide +kernel) ?_
                                                    refine wm_iadd 1017 (by decide +kernel) rfl ?_
                                                    obtain ⟨o262, H⟩ := H
                                                    refine wm_sald 1018 (by decide +kernel) rfl o262 ?_
                                                    refine wm_aload_n 0 1019 (by decide +kernel) rfl rfl ?_
                                                    refine wm_iload_n 3 1020 (by decide +kernel) rfl rfl ?_
                                                    refine wm_iconst 3 1021 (by decide +kernel : decode cL_law 1020 = .ok (.iconst 3, 1)) rfl (by decide +kernel) ?_
                                                    refine wm_iadd 1022 (by decide +kernel) rfl ?_
                                                    obtain ⟨o263, H⟩ := H
                                                    refine wm_sald 1023 (by decide +kernel) rfl o263 ?_
                                                    refine wm_callVi mX8_steady 3 8 [_, _, _] [_] _ _ 1026 mo_X8_steady np_X8_steady ml_RL_108 im_X8_steady se_X8_steady (by decide +kernel) (by decide +kernel) rfl rfl rfl (Nat.le_of_ble_eq_true rfl) (by decide +kernel) rfl (Nat.le_of_ble_eq_true rfl) _ (ent_pad 2 rfl) (l_X8_steady g _ _ _ _ _ H) (fun v265 h264 H hzv265 => ?_)
                                                    refine wm_icmp_eq 1029 1616 (by decide +kernel : decode cL_law 1026 = .ok (.if_icmp .eq 590, 3)) (by decide) rfl (fun c266 => ?_) (fun c266 => ?_)
                                                    · replace H := H.1 c266
                                                      replace H := H _ rfl
                                                      refine wm_iinc 3 (_ + 6) 1619 [some _, some _, some _, some _] (by decide +kernel : decode cL_law 1616 = .ok (.iinc 3 6, 3)) rfl (by decide +kernel) rfl (ofI_eq (by decide +kernel)) (okS_spec rfl) rfl ?_
                                                      refine wm_goto 18 (by decide +kernel : decode cL_law 1619 = .ok (.goto (-1601), 3)) (by decide) ?_
                                                      exact ih _ _ H
                                                    · replace H := H.2 c266
                                                      refine wm_iconst 0 1030 (by decide +kernel : decode cL_law 1029 = .ok (.iconst 0, 1)) rfl (by decide +kernel) ?_
                                                      exact wm_iret (by decide +kernel) ⟨.boolean, rfl, (by decide +kernel)⟩ H
                                                  · skip
                                                    refine em_go H (fun c268 H => ?_) (fun c268 H => ?_)
                                                    · refine wm_tin (off := 998) 23 1031 c268 (by decide +kernel : decode cL_law 33 = .ok (.tableswitch 1583 0 40 #[179, 212, 275, 308, 341, 384, 427, 460, 493, 526, 549, 572, 605, 638, 661, 704, 747, 780, 813, 856, 889, 932, 955, 998, 1031, 1074, 1117, 1150, 1163, 1176, 1219, 1293, 1356, 1379, 1412, 1455, 1498, 1511, 1524, 1537, 1560], 179)) (by decide +kernel) (by decide +kernel) (by decide +kernel) (by decide) ?_
                                                      refine wm_aload_n 1 1032 (by decide +kernel) rfl rfl ?_
                                                      refine wm_aload_n 0 1033 (by decide +kernel) rfl rfl ?_
                                                      refine wm_iload_n 3 1034 (by decide +kernel) rfl rfl ?_
                                                      refine wm_iconst 1 1035 (by decide +kernel : decode cL_law 1034 = .ok (.iconst 1, 1)) rfl (by decide +kernel) ?_
                                                      refine wm_iadd 1036 (by decide +kernel) rfl ?_
                                                      obtain ⟨o269, H⟩ := H
                                                      refine wm_sald 1037 (by decide +kernel) rfl o269 ?_
                                                      refine wm_aload_n 0 1038 (by decide +kernel) rfl rfl ?_
                                                      refine wm_iload_n 3 1039 (by decide +kernel) rfl rfl ?_
                                                      refine wm_iconst 2 1040 (by decide +kernel : decode cL_law 1039 = .ok (.iconst 2, 1)) rfl (by decide +kernel) ?_
                                                      refine wm_iadd 1041 (by decide +kernel) rfl ?_
                                                      obtain ⟨o270, H⟩ := H
                                                      refine wm_sald 1042 (by decide +kernel) rfl o270 ?_
                                                      refine wm_callVi mX7_rate 2 7 [_, _] [] _ _ 1045 mo_X7_rate np_X7_rate ml_RL_109 im_X7_rate se_X7_rate (by decide +kernel) (by decide +kernel) rfl rfl rfl (Nat.le_of_ble_eq_true rfl) (by decide +kernel) rfl (Nat.le_of_ble_eq_true rfl) _ (ent_pad 0 rfl) (l_X7_rate g _ _ _ _ H) (fun v272 h271 H hzv272 => ?_)
                                                      refine wm_aload_n 2 1046 (by decide +kernel) rfl rfl ?_
                                                      refine wm_aload_n 0 1047 (by decide +kernel) rfl rfl ?_
                                                      refine wm_iload_n 3 1048 (by decide +kernel) rfl rfl ?_
                                                      refine wm_iconst 1 1049 (by decide +kernel : decode cL_law 1048 = .ok (.iconst 1, 1)) rfl (by decide +kernel) ?_
                                                      refine wm_iadd 1050 (by decide +kernel) rfl ?_
                                                      obtain ⟨o273, H⟩ := H
                                                      refine wm_sald 1051 (by decide +kernel) rfl o273 ?_
                                                      refine wm_aload_n 0 1052 (by decide +kernel) rfl rfl ?_
                                                      refine wm_iload_n 3 1053 (by decide +kernel) rfl rfl ?_
                                                      refine wm_iconst 2 1054 (by decide +kernel : decode cL_law 1053 = .ok (.iconst 2, 1)) rfl (by decide +kernel) ?_
                                                      refine wm_iadd 1055 (by decide +kernel) rfl ?_
                                                      obtain ⟨o274, H⟩ := H
                                                      refine wm_sald 1056 (by decide +kernel) rfl o274 ?_
                                                      refine wm_callVi mX8_rate 2 8 [_, _] [_] _ _ 1059 mo_X8_rate np_X8_rate ml_RL_112 im_X8_rate se_X8_rate (by decide +kernel) (by decide +kernel) rfl rfl rfl (Nat.le_of_ble_eq_true rfl) (by decide +kernel) rfl (Nat.le_of_ble_eq_true rfl) _ (ent_pad 0 rfl) (l_X8_rate g _ _ _ _ H) (fun v276 h275 H hzv276 => ?_)
                                                      refine wm_icmp_eq 1062 1616 (by decide +kernel : decode cL_law 1059 = .ok (.if_icmp .eq 557, 3)) (by decide) rfl (fun c277 => ?_) (fun c277 => ?_)
                                                      · replace H := H.1 c277
                                                        replace H := H _ rfl
                                                        refine wm_iinc 3 (_ + 6) 1619 [some _, some _, some _, some _] (by decide +kernel : decode cL_law 1616 = .ok (.iinc 3 6, 3)) rfl (by decide +kernel) rfl (ofI_eq (by decide +kernel)) (okS_spec rfl) rfl ?_
                                                        refine wm_goto 18 (by decide +kernel : decode cL_law 1619 = .ok (.goto (-1601), 3)) (by decide) ?_
                                                        exact ih _ _ H
                                                      · replace H := H.2 c277
                                                        refine wm_iconst 0 1063 (by decide +kernel : decode cL_law 1062 = .ok (.iconst 0, 1)) rfl (by decide +kernel) ?_
                                                        exact wm_iret (by decide +kernel) ⟨.boolean, rfl, (by decide +kernel)⟩ H
                                                    · skip
                                                      refine em_go H (fun c279 H => ?_) (fun c279 H => ?_)
                                                      · refine wm_tin (off := 1031) 24 1064 c279 (by decide +kernel : decode cL_law 33 = .ok (.tableswitch 1583 0 40 #[179, 212, 275, 308, 341, 384, 427, 460, 493, 526, 549, 572, 605, 638, 661, 704, 747, 780, 813, 856, 889, 932, 955, 998, 1031, 1074, 1117, 1150, 1163, 1176, 1219, 1293, 1356, 1379, 1412, 1455, 1498, 1511, 1524, 1537, 1560], 179)) (by decide +kernel) (by decide +kernel) (by decide +kernel) (by decide) ?_
                                                        refine wm_aload_n 1 1065 (by decide +kernel) rfl rfl ?_
                                                        refine wm_aload_n 0 1066 (by decide +kernel) rfl rfl ?_
                                                        refine wm_iload_n 3 1067 (by decide +kernel) rfl rfl ?_
                                                        refine wm_iconst 1 1068 (by decide +kernel : decode cL_law 1067 = .ok (.iconst 1, 1)) rfl (by decide +kernel) ?_
                                                        refine wm_iadd 1069 (by decide +kernel) rfl ?_
                                                        obtain ⟨o280, H⟩ := H
                                                        refine wm_sald 1070 (by decide +kernel) rfl o280 ?_
                                                        refine wm_aload_n 0 1071 (by decide +kernel) rfl rfl ?_
                                                        refine wm_iload_n 3 1072 (by decide +kernel) rfl rfl ?_
                                                        refine wm_iconst 2 1073 (by decide +kernel : decode cL_law 1072 = .ok (.iconst 2, 1)) rfl (by decide +kernel) ?_
                                                        refine wm_iadd 1074 (by decide +kernel) rfl ?_
                                                        obtain ⟨o281, H⟩ := H
                                                        refine wm_sald 1075 (by decide +kernel) rfl o281 ?_
                                                        refine wm_aload_n 0 1076 (by decide +kernel) rfl rfl ?_
                                                        refine wm_iload_n 3 1077 (by decide +kernel) rfl rfl ?_
                                                        refine wm_iconst 3 1078 (by decide +kernel : decode cL_law 1077 = .ok (.iconst 3, 1)) rfl (by decide +kernel) ?_
                                                        refine wm_iadd 1079 (by decide +kernel) rfl ?_
                                                        obtain ⟨o282, H⟩ := H
                                                        refine wm_sald 1080 (by decide +kernel) rfl o282 ?_
                                                        refine wm_callVi mX7_gain 3 7 [_, _, _] [] _ _ 1083 mo_X7_gain np_X7_gain ml_RL_113 im_X7_gain se_X7_gain (by decide +kernel) (by decide +kernel) rfl rfl rfl (Nat.le_of_ble_eq_true rfl) (by decide +kernel) rfl (Nat.le_of_ble_eq_true rfl) _ (ent_pad 0 rfl) (l_X7_gain g _ _ _ _ _ H) (fun v284 h283 H hzv284 => ?_)
                                                        refine wm_aload_n 2 1084 (by decide +kernel) rfl rfl ?_
                                                        refine wm_aload_n 0 1085 (by decide +kernel) rfl rfl ?_
                                                        refine wm_iload_n 3 1086 (by decide +kernel) rfl rfl ?_
                                                        refine wm_iconst 1 1087 (by decide +kernel : decode cL_law 1086 = .ok (.iconst 1, 1)) rfl (by decide +kernel) ?_
                                                        refine wm_iadd 1088 (by decide +kernel) rfl ?_
                                                        obtain ⟨o285, H⟩ := H
                                                        refine wm_sald 1089 (by decide +kernel) rfl o285 ?_
                                                        refine wm_aload_n 0 1090 (by decide +kernel) rfl rfl ?_
                                                        refine wm_iload_n 3 1091 (by decide +kernel) rfl rfl ?_
                                                        refine wm_iconst 2 1092 (by decide +kernel : decode cL_law 1091 = .ok (.iconst 2, 1)) rfl (by decide +kernel) ?_
                                                        refine wm_iadd 1093 (by decide +kernel) rfl ?_
                                                        obtain ⟨o286, H⟩ := H
                                                        refine wm_sald 1094 (by decide +kernel) rfl o286 ?_
                                                        refine wm_aload_n 0 1095 (by decide +kernel) rfl rfl ?_
                                                        refine wm_iload_n 3 1096 (by decide +kernel) rfl rfl ?_
                                                        refine wm_iconst 3 1097 (by decide +kernel : decode cL_law 1096 = .ok (.iconst 3, 1)) rfl (by decide +kernel) ?_
                                                        refine wm_iadd 1098 (by decide +kernel) rfl ?_
                                                        obtain ⟨o287, H⟩ := H
                                                        refine wm_sald 1099 (by decide +kernel) rfl o287 ?_
                                                        refine wm_callVi mX8_gain 3 8 [_, _, _] [_] _ _ 1102 mo_X8_gain np_X8_gain ml_RL_116 im_X8_gain se_X8_gain (by decide +kernel) (by decide +kernel) rfl rfl rfl (Nat.le_of_ble_eq_true rfl) (by decide +kernel) rfl (Nat.le_of_ble_eq_true rfl) _ (ent_pad 0 rfl) (l_X8_gain g _ _ _ _ _ H) (fun v289 h288 H hzv289 => ?_)
                                                        refine wm_icmp_eq 1105 1616 (by decide +kernel : decode cL_law 1102 = .ok (.if_icmp .eq 514, 3)) (by decide) rfl (fun c290 => ?_) (fun c290 => ?_)
                                                        · replace H := H.1 c290
                                                          replace H := H _ rfl
                                                          refine wm_iinc 3 (_ + 6) 1619 [some _, some _, some _, some _] (by decide +kernel : decode cL_law 1616 = .ok (.iinc 3 6, 3)) rfl (by decide +kernel) rfl (ofI_eq (by decide +kernel)) (okS_spec rfl) rfl ?_
                                                          refine wm_goto 18 (by decide +kernel : decode cL_law 1619 = .ok (.goto (-1601), 3)) (by decide) ?_
                                                          exact ih _ _ H
                                                        · replace H := H.2 c290
                                                          refine wm_iconst 0 1106 (by decide +kernel : decode cL_law 1105 = .ok (.iconst 0, 1)) rfl (by decide +kernel) ?_
                                                          exact wm_iret (by decide +kernel) ⟨.boolean, rfl, (by decide +kernel)⟩ H
                                                      · skip
                                                        refine em_go H (fun c292 H => ?_) (fun c292 H => ?_)
                                                        · refine wm_tin (off := 1074) 25 1107 c292 (by decide +kernel : decode cL_law 33 = .ok (.tableswitch 1583 0 40 #[179, 212, 275, 308, 341, 384, 427, 460, 493, 526, 549, 572, 605, 638, 661, 704, 747, 780, 813, 856, 889, 932, 955, 998, 1031, 1074, 1117, 1150, 1163, 1176, 1219, 1293, 1356, 1379, 1412, 1455, 1498, 1511, 1524, 1537, 1560], 179)) (by decide +kernel) (by decide +kernel) (by decide +kernel) (by decide) ?_
                                                          refine wm_aload_n 1 1108 (by decide +kernel) rfl rfl ?_
                                                          refine wm_aload_n 0 1109 (by decide +kernel) rfl rfl ?_
                                                          refine wm_iload_n 3 1110 (by decide +kernel) rfl rfl ?_
                                                          refine wm_iconst 1 1111 (by decide +kernel : decode cL_law 1110 = .ok (.iconst 1, 1)) rfl (by decide +kernel) ?_
                                                          refine wm_iadd 1112 (by decide +kernel) rfl ?_
                                                          obtain ⟨o293, H⟩ := H
                                                          refine wm_sald 1113 (by decide +kernel) rfl o293 ?_
                                                          refine wm_aload_n 0 1114 (by decide +kernel) rfl rfl ?_
                                                          refine wm_iload_n 3 1115 (by decide +kernel) rfl rfl ?_
                                                          refine wm_iconst 2 1116 (by decide +kernel : decode cL_law 1115 = .ok (.iconst 2, 1)) rfl (by decide +kernel) ?_
                                                          refine wm_iadd 1117 (by decide +kernel) rfl ?_
                                                          obtain ⟨o294, H⟩ := H
                                                          refine wm_sald 1118 (by decide +kernel) rfl o294 ?_
                                                          refine wm_aload_n 0 1119 (by decide +kernel) rfl rfl ?_
                                                          refine wm_iload_n 3 1120 (by decide +kernel) rfl rfl ?_
                                                          refine wm_iconst 3 1121 (by decide +kernel : decode cL_law 1120 = .ok (.iconst 3, 1)) rfl (by decide +kernel) ?_
                                                          refine wm_iadd 1122 (by decide +kernel) rfl ?_
                                                          obtain ⟨o295, H⟩ := H
                                                          refine wm_sald 1123 (by decide +kernel) rfl o295 ?_
                                                          refine wm_callVi mX7_reach 3 7 [_, _, _] [] _ _ 1126 mo_X7_reach np_X7_reach ml_RL_117 im_X7_reach se_X7_reach (by decide +kernel) (by decide +kernel) rfl rfl rfl (Nat.le_of_ble_eq_true rfl) (by decide +kernel) rfl (Nat.le_of_ble_eq_true rfl) _ (ent_pad 2 rfl) (l_X7_reach g _ _ _ _ _ H) (fun v297 h296 H hzv297 => ?_)
                                                          refine wm_aload_n 2 1127 (by decide +kernel) rfl rfl ?_
                                                          refine wm_aload_n 0 1128 (by decide +kernel) rfl rfl ?_
                                                          refine wm_iload_n 3 1129 (by decide +kernel) rfl rfl ?_
                                                          refine wm_iconst 1 1130 (by decide +kernel : decode cL_law 1129 = .ok (.iconst 1, 1)) rfl (by decide +kernel) ?_
                                                          refine wm_iadd 1131 (by decide +kernel) rfl ?_
                                                          obtain ⟨o298, H⟩ := H
                                                          refine wm_sald 1132 (by decide +kernel) rfl o298 ?_
                                                          refine wm_aload_n 0 1133 (by decide +kernel) rfl rfl ?_
                                                          refine wm_iload_n 3 1134 (by decide +kernel) rfl rfl ?_
                                                          refine wm_iconst 2 1135 (by decide +kernel : decode cL_law 1134 = .ok (.iconst 2, 1)) rfl (by decide +kernel) ?_
                                                          refine wm_iadd 1136 (by decide +kernel) rfl ?_
                                                          obtain ⟨o299, H⟩ := H
                                                          refine wm_sald 1137 (by decide +kernel) rfl o299 ?_
                                                          refine wm_aload_n 0 1138 (by decide +kernel) rfl rfl ?_
                                                          refine wm_iload_n 3 1139 (by decide +kernel) rfl rfl ?_
                                                          refine wm_iconst 3 1140 (by decide +kernel : decode cL_law 1139 = .ok (.iconst 3, 1)) rfl (by decide +kernel) ?_
                                                          refine wm_iadd 1141 (by decide +kernel) rfl ?_
                                                          obtain ⟨o300, H⟩ := H
                                                          refine wm_sald 1142 (by decide +kernel) rfl o300 ?_
                                                          refine wm_callVi mX8_reach 3 8 [_, _, _] [_] _ _ 1145 mo_X8_reach np_X8_reach ml_RL_120 im_X8_reach se_X8_reach (by decide +kernel) (by decide +kernel) rfl rfl rfl (Nat.le_of_ble_eq_true rfl) (by decide +kernel) rfl (Nat.le_of_ble_eq_true rfl) _ (ent_pad 6 rfl) (l_X8_reach g _ _ _ _ _ H) (fun v302 h301 H hzv302 => ?_)
                                                          refine wm_icmp_eq 1148 1616 (by decide +kernel : decode cL_law 1145 = .ok (.if_icmp .eq 471, 3)) (by decide) rfl (fun c303 => ?_) (fun c303 => ?_)
                                                          · replace H := H.1 c303
                                                            replace H := H _ rfl
                                                            refine wm_iinc 3 (_ + 6) 1619 [some _, some _, some _, some _] (by decide +kernel : decode cL_law 1616 = .ok (.iinc 3 6, 3)) rfl (by decide +kernel) rfl (ofI_eq (by decide +kernel)) (okS_spec rfl) rfl ?_
                                                            refine wm_goto 18 (by decide +kernel : decode cL_law 1619 = .ok (.goto (-1601), 3)) (by decide) ?_
                                                            exact ih _ _ H
                                                          · replace H := H.2 c303
                                                            refine wm_iconst 0 1149 (by decide +kernel : decode cL_law 1148 = .ok (.iconst 0, 1)) rfl (by decide +kernel) ?_
                                                            exact wm_iret (by decide +kernel) ⟨.boolean, rfl, (by decide +kernel)⟩ H
                                                        · skip
                                                          refine em_go H (fun c305 H => ?_) (fun c305 H => ?_)
                                                          · refine wm_tin (off := 1117) 26 1150 c305 (by decide +kernel : decode cL_law 33 = .ok (.tableswitch 1583 0 40 #[179, 212, 275, 308, 341, 384, 427, 460, 493, 526, 549, 572, 605, 638, 661, 704, 747, 780, 813, 856, 889, 932, 955, 998, 1031, 1074, 1117, 1150, 1163, 1176, 1219, 1293, 1356, 1379, 1412, 1455, 1498, 1511, 1524, 1537, 1560], 179)) (by decide +kernel) (by decide +kernel) (by decide +kernel) (by decide) ?_
                                                            refine wm_aload_n 1 1151 (by decide +kernel) rfl rfl ?_
                                                            refine wm_aload_n 0 1152 (by decide +kernel) rfl rfl ?_
                                                            refine wm_iload_n 3 1153 (by decide +kernel) rfl rfl ?_
                                                            refine wm_iconst 1 1154 (by decide +kernel : decode cL_law 1153 = .ok (.iconst 1, 1)) rfl (by decide +kernel) ?_
                                                            refine wm_iadd 1155 (by decide +kernel) rfl ?_
                                                            obtain ⟨o306, H⟩ := H
                                                            refine wm_sald 1156 (by decide +kernel) rfl o306 ?_
                                                            refine wm_aload_n 0 1157 (by decide +kernel) rfl rfl ?_
                                                            refine wm_iload_n 3 1158 (by decide +kernel) rfl rfl ?_
                                                            refine wm_iconst 2 1159 (by decide +kernel : decode cL_law 1158 = .ok (.iconst 2, 1)) rfl (by decide +kernel) ?_
                                                            refine wm_iadd 1160 (by decide +kernel) rfl ?_
                                                            obtain ⟨o307, H⟩ := H
                                                            refine wm_sald 1161 (by decide +kernel) rfl o307 ?_
                                                            refine wm_callVi mX7_feed 2 7 [_, _] [] _ _ 1164 mo_X7_feed np_X7_feed ml_RL_121 im_X7_feed se_X7_feed (by decide +kernel) (by decide +kernel) rfl rfl rfl (Nat.le_of_ble_eq_true rfl) (by decide +kernel) rfl (Nat.le_of_ble_eq_true rfl) _ (ent_pad 1 rfl) (l_X7_feed g _ _ _ _ H) (fun v309 h308 H hzv309 => ?_)
                                                            refine wm_aload_n 2 1165 (by decide +kernel) rfl rfl ?_
                                                            refine wm_aload_n 0 1166 (by decide +kernel) rfl rfl ?_
                                                            refine wm_iload_n 3 1167 (by decide +kernel) rfl rfl ?_
                                                            refine wm_iconst 1 1168 (by decide +kernel : decode cL_law 1167 = .ok (.iconst 1, 1)) rfl (by decide +kernel) ?_
                                                            refine wm_iadd 1169 (by decide +kernel) rfl ?_
                                                            obtain ⟨o310, H⟩ := H
                                                            refine wm_sald 1170 (by decide +kernel) rfl o310 ?_
                                                            refine wm_aload_n 0 1171 (by decide +kernel) rfl rfl ?_
                                                            refine wm_iload_n 3 1172 (by decide +kernel) rfl rfl ?_
                                                            refine wm_iconst 2 1173 (by decide +kernel : decode cL_law 1172 = .ok (.iconst 2, 1)) rfl (by decide +kernel) ?_
                                                            refine wm_iadd 1174 (by decide +kernel) rfl ?_
                                                            obtain ⟨o311, H⟩ := H
                                                            refine wm_sald 1175 (by decide +kernel) rfl o311 ?_
                                                            refine wm_callVi mX8_feed 2 8 [_, _] [_] _ _ 1178 mo_X8_feed np_X8_feed ml_RL_124 im_X8_feed se_X8_feed (by decide +kernel) (by decide +kernel) rfl rfl rfl (Nat.le_of_ble_eq_true rfl) (by decide +kernel) rfl (Nat.le_of_ble_eq_true rfl) _ (ent_pad 1 rfl) (l_X8_feed g _ _ _ _ H) (fun v313 h312 H hzv313 => ?_)
                                                            refine wm_icmp_eq 1181 1616 (by decide +kernel : decode cL_law 1178 = .ok (.if_icmp .eq 438, 3)) (by decide) rfl (fun c314 => ?_) (fun c314 => ?_)
                                                            · replace H := H.1 c314
                                                              replace H := H _ rfl
                                                              refine wm_iinc 3 (_ + 6) 1619 [some _, some _, some _, some _] (by decide +kernel : decode cL_law 1616 = .ok (.iinc 3 6, 3)) rfl (by decide +kernel) rfl (ofI_eq (by decide +kernel)) (okS_spec rfl) rfl ?_
                                                              refine wm_goto 18 (by decide +kernel : decode cL_law 1619 = .ok (.goto (-1601), 3)) (by decide) ?_
                                                              exact ih _ _ H
                                                            · replace H := H.2 c314
                                                              refine wm_iconst 0 1182 (by decide +kernel : decode cL_law 1181 = .ok (.iconst 0, 1)) rfl (by decide +kernel) ?_
                                                              exact wm_iret (by decide +kernel) ⟨.boolean, rfl, (by decide +kernel)⟩ H
                                                          · skip
                                                            refine em_go H (fun c316 H => ?_) (fun c316 H => ?_)
                                                            · refine wm_tin (off := 1150) 27 1183 c316 (by decide +kernel : decode cL_law 33 = .ok (.tableswitch 1583 0 40 #[179, 212, 275, 308, 341, 384, 427, 460, 493, 526, 549, 572, 605, 638, 661, 704, 747, 780, 813, 856, 889, 932, 955, 998, 1031, 1074, 1117, 1150, 1163, 1176, 1219, 1293, 1356, 1379, 1412, 1455, 1498, 1511, 1524, 1537, 1560], 179)) (by decide +kernel) (by decide +kernel) (by decide +kernel) (by decide) ?_
                                                              refine wm_aload_n 1 1184 (by decide +kernel) rfl rfl ?_
                                                              refine wm_callVi mX7_wipe 0 7 [] [] _ _ 1187 mo_X7_wipe np_X7_wipe ml_RL_125 im_X7_wipe se_X7_wipe (by decide +kernel) (by decide +kernel) rfl rfl rfl (Nat.le_of_ble_eq_true rfl) (by decide +kernel) rfl (Nat.le_of_ble_eq_true rfl) _ (ent_pad 1 rfl) (l_X7_wipe g _ _ H) (fun v318 h317 H hzv318 => ?_)
                                                              refine wm_aload_n 2 1188 (by decide +kernel) rfl rfl ?_
                                                              refine wm_callVi mX8_wipe 0 8 [] [_] _ _ 1191 mo_X8_wipe np_X8_wipe ml_RL_129 im_X8_wipe se_X8_wipe (by decide +kernel) (by decide +kernel) rfl rfl rfl (Nat.le_of_ble_eq_true rfl) (by decide +kernel) rfl (Nat.le_of_ble_eq_true rfl) _ (ent_pad 1 rfl) (l_X8_wipe g _ _ H) (fun v320 h319 H hzv320 => ?_)
                                                              refine wm_icmp_eq 1194 1616 (by decide +kernel : decode cL_law 1191 = .ok (.if_icmp .eq 425, 3)) (by decide) rfl (fun c321 => ?_) (fun c321 => ?_)
                                                              · replace H := H.1 c321
                                                                replace H := H _ rfl
                                                                refine wm_iinc 3 (_ + 6) 1619 [some _, some _, some _, some _] (by decide +kernel : decode cL_law 1616 = .ok (.iinc 3 6, 3)) rfl (by decide +kernel) rfl (ofI_eq (by decide +kernel)) (okS_spec rfl) rfl ?_
                                                                refine wm_goto 18 (by decide +kernel : decode cL_law 1619 = .ok (.goto (-1601), 3)) (by decide) ?_
                                                                exact ih _ _ H
                                                              · replace H := H.2 c321
                                                                refine wm_iconst 0 1195 (by decide +kernel : decode cL_law 1194 = .ok (.iconst 0, 1)) rfl (by decide +kernel) ?_
                                                                exact wm_iret (by decide +kernel) ⟨.boolean, rfl, (by decide +kernel)⟩ H
                                                            · skip
                                                              refine em_go H (fun c323 H => ?_) (fun c323 H => ?_)
                                                              · refine wm_tin (off := 1163) 28 1196 c323 (by decide +kernel : decode cL_law 33 = .ok (.tableswitch 1583 0 40 #[179, 212, 275, 308, 341, 384, 427, 460, 493, 526, 549, 572, 605, 638, 661, 704, 747, 780, 813, 856, 889, 932, 955, 998, 1031, 1074, 1117, 1150, 1163, 1176, 1219, 1293, 1356, 1379, 1412, 1455, 1498, 1511, 1524, 1537, 1560], 179)) (by decide +kernel) (by decide +kernel) (by decide +kernel) (by decide) ?_
                                                                refine wm_aload_n 1 1197 (by decide +kernel) rfl rfl ?_
                                                                refine wm_callVi mX7_text 0 7 [] [] _ _ 1200 mo_X7_text np_X7_text ml_RL_130 im_X7_text se_X7_text (by decide +kernel) (by decide +kernel) rfl rfl rfl (Nat.le_of_ble_eq_true rfl) (by decide +kernel) rfl (Nat.le_of_ble_eq_true rfl) _ (ent_pad 3 rfl) (l_X7_text g _ _ H) (fun v325 h324 H hzv325 => ?_)
                                                                refine wm_aload_n 2 1201 (by decide +kernel) rfl rfl ?_
                                                                refine wm_callVi mX8_text 0 8 [] [_] _ _ 1204 mo_X8_text np_X8_text ml_RL_133 im_X8_text se_X8_text (by decide +kernel) (by decide +kernel) rfl rfl rfl (Nat.le_of_ble_eq_true rfl) (by decide +kernel) rfl (Nat.le_of_ble_eq_true rfl) _ (ent_pad 4 rfl) (l_X8_text g _ _ H) (fun v327 h326 H hzv327 => ?_)
                                                                refine wm_icmp_eq 1207 1616 (by decide +kernel : decode cL_law 1204 = .ok (.if_icmp .eq 412, 3)) (by decide) rfl (fun c328 => ?_) (fun c328 => ?_)
                                                                · replace H := H.1 c328
                                                                  replace H := H _ rfl
                                                                  refine wm_iinc 3 (_ + 6) 1619 [some _, some _, some _, some _] (by decide +kernel : decode cL_law 1616 = .ok (.iinc 3 6, 3)) rfl (by decide +kernel) rfl (ofI_eq (by decide +kernel)) (okS_spec rfl) rfl ?_
                                                                  refine wm_goto 18 (by decide +kernel : decode cL_law 1619 = .ok (.goto (-1601), 3)) (by decide) ?_
                                                                  exact ih _ _ H
                                                                · replace H := H.2 c328
                                                                  refine wm_iconst 0 1208 (by decide +kernel : decode cL_law 1207 = .ok (.iconst 0, 1)) rfl (by decide +kernel) ?_
                                                                  exact wm_iret (by decide +kernel) ⟨.boolean, rfl, (by decide +kernel)⟩ H
                                                              · skip
                                                                refine em_go H (fun c330 H => ?_) (fun c330 H => ?_)
                                                                · refine wm_tin (off := 1176) 29 1209 c330 (by decide +kernel : decode cL_law 33 = .ok (.tableswitch 1583 0 40 #[179, 212, 275, 308, 341, 384, 427, 460, 493, 526, 549, 572, 605, 638, 661, 704, 747, 780, 813, 856, 889, 932, 955, 998, 1031, 1074, 1117, 1150, 1163, 1176, 1219, 1293, 1356, 1379, 1412, 1455, 1498, 1511, 1524, 1537, 1560], 179)) (by decide +kernel) (by decide +kernel) (by decide +kernel) (by decide) ?_
                                                                  refine wm_aload_n 1 1210 (by decide +kernel) rfl rfl ?_
                                                                  refine wm_aload_n 0 1211 (by decide +kernel) rfl rfl ?_
                                                                  refine wm_iload_n 3 1212 (by decide +kernel) rfl rfl ?_
                                                                  refine wm_iconst 1 1213 (by decide +kernel : decode cL_law 1212 = .ok (.iconst 1, 1)) rfl (by decide +kernel) ?_
                                                                  refine wm_iadd 1214 (by decide +kernel) rfl ?_
                                                                  obtain ⟨o331, H⟩ := H
                                                                  refine wm_sald 1215 (by decide +kernel) rfl o331 ?_
                                                                  refine wm_aload_n 0 1216 (by decide +kernel) rfl rfl ?_
                                                                  refine wm_iload_n 3 1217 (by decide +kernel) rfl rfl ?_
                                                                  refine wm_iconst 2 1218 (by decide +kernel : decode cL_law 1217 = .ok (.iconst 2, 1)) rfl (by decide +kernel) ?_
                                                                  refine wm_iadd 1219 (by decide +kernel) rfl ?_
                                                                  obtain ⟨o332, H⟩ := H
                                                                  refine wm_sald 1220 (by decide +kernel) rfl o332 ?_
                                                                  refine wm_aload_n 0 1221 (by decide +kernel) rfl rfl ?_
                                                                  refine wm_iload_n 3 1222 (by decide +kernel) rfl rfl ?_
                                                                  refine wm_iconst 3 1223 (by decide +kernel : decode cL_law 1222 = .ok (.iconst 3, 1)) rfl (by decide +kernel) ?_
                                                                  refine wm_iadd 1224 (by decide +kernel) rfl ?_
                                                                  obtain ⟨o333, H⟩ := H
                                                                  refine wm_sald 1225 (by decide +kernel) rfl o333 ?_
                                                                  refine wm_callVi mX7_sheet 3 7 [_, _, _] [] _ _ 1228 mo_X7_sheet np_X7_sheet ml_RL_134 im_X7_sheet se_X7_sheet (by decide +kernel) (by decide +kernel) rfl rfl rfl (Nat.le_of_ble_eq_true rfl) (by decide +kernel) rfl (Nat.le_of_ble_eq_true rfl) _ (ent_pad 0 rfl) (l_X7_sheet g _ _ _ _ _ H) (fun v335 h334 H hzv335 => ?_)
                                                                  refine wm_aload_n 2 1229 (by decide +kernel) rfl rfl ?_
                                                                  refine wm_aload_n 0 1230 (by decide +kernel) rfl rfl ?_
                                                                  refine wm_iload_n 3 1231 (by decide +kernel) rfl rfl ?_
                                                                  refine wm_iconst 1 1232 (by decide +kernel : decode cL_law 1231 = .ok (.iconst 1, 1)) rfl (by decide +kernel) ?_
                                                                  refine wm_iadd 1233 (by decide +kernel) rfl ?_
                                                                  obtain ⟨o336, H⟩ := H
                                                                  refine wm_sald 1234 (by decide +kernel) rfl o336 ?_
                                                                  refine wm_aload_n 0 1235 (by decide +kernel) rfl rfl ?_
                                                                  refine wm_iload_n 3 1236 (by decide +kernel) rfl rfl ?_
                                                                  refine wm_iconst 2 1237 (by decide +kernel : decode cL_law 1236 = .ok (.iconst 2, 1)) rfl (by decide +kernel) ?_
                                                                  refine wm_iadd 1238 (by decide +kernel) rfl ?_
                                                                  obtain ⟨o337, H⟩ := H
                                                                  refine wm_sald 1239 (by decide +kernel) rfl o337 ?_
                                                                  refine wm_aload_n 0 1240 (by decide +kernel) rfl rfl ?_
                                                                  refine wm_iload_n 3 1241 (by decide +kernel) rfl rfl ?_
                                                                  refine wm_iconst 3 1242 (by decide +kernel : decode cL_law 1241 = .ok (.iconst 3, 1)) rfl (by decide +kernel) ?_
                                                                  refine wm_iadd 1243 (by decide +kernel) rfl ?_
                                                                  obtain ⟨o338, H⟩ := H
                                                                  refine wm_sald 1244 (by decide +kernel) rfl o338 ?_
                                                                  refine wm_callVi mX8_sheet 3 8 [_, _, _] [_] _ _ 1247 mo_X8_sheet np_X8_sheet ml_RL_137 im_X8_sheet se_X8_sheet (by decide +kernel) (by decide +kernel) rfl rfl rfl (Nat.le_of_ble_eq_true rfl) (by decide +kernel) rfl (Nat.le_of_ble_eq_true rfl) _ (ent_pad 1 rfl) (l_X8_sheet g _ _ _ _ _ H) (fun v340 h339 H hzv340 => ?_)
                                                                  refine wm_icmp_eq 1250 1616 (by decide +kernel : decode cL_law 1247 = .ok (.if_icmp .eq 369, 3)) (by decide) rfl (fun c341 => ?_) (fun c341 => ?_)
                                                                  · replace H := H.1 c341
                                                                    replace H := H _ rfl
                                                                    refine wm_iinc 3 (_ + 6) 1619 [some _, some _, some _, some _] (by decide +kernel : decode cL_law 1616 = .ok (.iinc 3 6, 3)) rfl (by decide +kernel) rfl (ofI_eq (by decide +kernel)) (okS_spec rfl) rfl ?_
                                                                    refine wm_goto 18 (by decide +kernel : decode cL_law 1619 = .ok (.goto (-1601), 3)) (by decide) ?_
                                                                    exact ih _ _ H
                                                                  · replace H := H.2 c341
                                                                    refine wm_iconst 0 1251 (by decide +kernel : decode cL_law 1250 = .ok (.iconst 0, 1)) rfl (by decide +kernel) ?_
                                                                    exact wm_iret (by decide +kernel) ⟨.boolean, rfl, (by decide +kernel)⟩ H
                                                                · skip
                                                                  refine em_go H (fun c343 H => ?_) (fun c343 H => ?_)
                                                                  · refine wm_tin (off := 1219) 30 1252 c343 (by decide +kernel : decode cL_law 33 = .ok (.tableswitch 1583 0 40 #[179, 212, 275, 308, 341, 384, 427, 460, 493, 526, 549, 572, 605, 638, 661, 704, 747, 780, 813, 856, 889, 932, 955, 998, 1031, 1074, 1117, 1150, 1163, 1176, 1219, 1293, 1356, 1379, 1412, 1455, 1498, 1511, 1524, 1537, 1560], 179)) (by decide +kernel) (by decide +kernel) (by decide +kernel) (by decide) ?_
                                                                    refine wm_aload_n 1 1253 (by decide +kernel) rfl rfl ?_
                                                                    refine wm_aload_n 0 1254 (by decide +kernel) rfl rfl ?_
                                                                    refine wm_iload_n 3 1255 (by decide +kernel) rfl rfl ?_
                                                                    refine wm_iconst 1 1256 (by decide +kernel : decode cL_law 1255 = .ok (.iconst 1, 1)) rfl (by decide +kernel) ?_
                                                                    refine wm_iadd 1257 (by decide +kernel) rfl ?_
                                                                    obtain ⟨o344, H⟩ := H
                                                                    refine wm_sald 1258 (by decide +kernel) rfl o344 ?_
                                                                    refine wm_aload_n 0 1259 (by decide +kernel) rfl rfl ?_
                                                                    refine wm_iload_n 3 1260 (by decide +kernel) rfl rfl ?_
                                                                    refine wm_iconst 2 1261 (by decide +kernel : decode cL_law 1260 = .ok (.iconst 2, 1)) rfl (by decide +kernel) ?_
                                                                    refine wm_iadd 1262 (by decide +kernel) rfl ?_
                                                                    obtain ⟨o345, H⟩ := H
                                                                    refine wm_sald 1263 (by decide +kernel) rfl o345 ?_
                                                                    refine wm_aload_n 0 1264 (by decide +kernel) rfl rfl ?_
                                                                    refine wm_iload_n 3 1265 (by decide +kernel) rfl rfl ?_
                                                                    refine wm_iconst 3 1266 (by decide +kernel : decode cL_law 1265 = .ok (.iconst 3, 1)) rfl (by decide +kernel) ?_
                                                                    refine wm_iadd 1267 (by decide +kernel) rfl ?_
                                                                    obtain ⟨o346, H⟩ := H
                                                                    refine wm_sald 1268 (by decide +kernel) rfl o346 ?_
                                                                    refine wm_i2l 1269 (by decide +kernel) rfl ?_
                                                                    refine wm_bipush 32 1271 (by decide +kernel : decode cL_law 1269 = .ok (.bipush 32, 2)) rfl (by decide +kernel) ?_
                                                                    refine wm_lshl 1272 (by decide +kernel) rfl ?_
                                                                    refine wm_aload_n 0 1273 (by decide +kernel) rfl rfl ?_
                                                                    refine wm_iload_n 3 1274 (by decide +kernel) rfl rfl ?_
                                                                    refine wm_iconst 4 1275 (by decide +kernel : decode cL_law 1274 = .ok (.iconst 4, 1)) rfl (by decide +kernel) ?_
                                                                    refine wm_iadd 1276 (by decide +kernel) rfl ?_
                                                                    obtain ⟨o347, H⟩ := H
                                                                    refine wm_sald 1277 (by decide +kernel) rfl o347 ?_
                                                                    refine wm_i2l 1278 (by decide +kernel) rfl ?_
                                                                    refine wm_ldc2 4294967295 1281 cl_RL_138 (by decide +kernel) rfl ?_
                                                                    refine wm_land 1282 (by decide +kernel) rfl ?_
                                                                    refine wm_lor 1283 (by decide +kernel) rfl ?_
                                                                    refine wm_callVl mX7_write 3 7 [_, _, _] [] _ _ 1286 mo_X7_write np_X7_write ml_RL_140 im_X7_write se_X7_write (by decide +kernel) (by decide +kernel) rfl rfl rfl (Nat.le_of_ble_eq_true rfl) (by decide +kernel) rfl (Nat.le_of_ble_eq_true rfl) _ (ent_pad 4 rfl) (l_X7_write g _ _ _ _ _ H) (fun v349 h348 H hzv349 => ?_)
                                                                    refine wm_aload_n 2 1287 (by decide +kernel) rfl rfl ?_
                                                                    refine wm_aload_n 0 1288 (by decide +kernel) rfl rfl ?_
                                                                    refine wm_iload_n 3 1289 (by decide +kernel) rfl rfl ?_
                                                                    refine wm_iconst 1 1290 (by decide +kernel : decode cL_law 1289 = .ok (.iconst 1, 1)) rfl (by decide +kernel) ?_
                                                                    refine wm_iadd 1291 (by decide +kernel) rfl ?_
                                                                    obtain ⟨o350, H⟩ := H
                                                                    refine wm_sald 1292 (by decide +kernel) rfl o350 ?_
                                                                    refine wm_aload_n 0 1293 (by decide +kernel) rfl rfl ?_
                                                                    refine wm_iload_n 3 1294 (by decide +kernel) rfl rfl ?_
                                                                    refine wm_iconst 2 1295 (by decide +kernel : decode cL_law 1294 = .ok (.iconst 2, 1)) rfl (by decide +kernel) ?_
                                                                    refine wm_iadd 1296 (by decide +kernel) rfl ?_
                                                                    obtain ⟨o351, H⟩ := H
                                                                    refine wm_sald 1297 (by decide +kernel) rfl o351 ?_
                                                                    refine wm_aload_n 0 1298 (by decide +kernel) rfl rfl ?_
                                                                    refine wm_iload_n 3 1299 (by decide +kernel) rfl rfl ?_
                                                                    refine wm_iconst 3 1300 (by decide +kernel : decode cL_law 1299 = .ok (.iconst 3, 1)) rfl (by decide +kernel) ?_
                                                                    refine wm_iadd 1301 (by decide +kernel) rfl ?_
                                                                    obtain ⟨o352, H⟩ := H
                                                                    refine wm_sald 1302 (by decide +kernel) rfl o352 ?_
                                                                    refine wm_i2l 1303 (by decide +kernel) rfl ?_
                                                                    refine wm_bipush 32 1305 (by decide +kernel : decode cL_law 1303 = .ok (.bipush 32, 2)) rfl (by decide +kernel) ?_
                                                                    refine wm_lshl 1306 (by decide +kernel) rfl ?_
                                                                    refine wm_aload_n 0 1307 (by decide +kernel) rfl rfl ?_
                                                                    refine wm_iload_n 3 1308 (by decide +kernel) rfl rfl ?_
                                                                    refine wm_iconst 4 1309 (by decide +kernel : decode cL_law 1308 = .ok (.iconst 4, 1)) rfl (by decide +kernel) ?_
                                                                    refine wm_iadd 1310 (by decide +kernel) rfl ?_
                                                                    obtain ⟨o353, H⟩ := H
                                                                    refine wm_sald 1311 (by decide +kernel) rfl o353 ?_
                                                                    refine wm_i2l 1312 (by decide +kernel) rfl ?_
                                                                    refine wm_ldc2 4294967295 1315 cl_RL_138 (by decide +kernel) rfl ?_
                                                                    refine wm_land 1316 (by decide +kernel) rfl ?_
                                                                    refine wm_lor 1317 (by decide +kernel) rfl ?_
                                                                    refine wm_callVl mX8_write 3 8 [_, _, _] [_] _ _ 1320 mo_X8_write np_X8_write ml_RL_144 im_X8_write se_X8_write (by decide +kernel) (by decide +kernel) rfl rfl rfl (Nat.le_of_ble_eq_true rfl) (by decide +kernel) rfl (Nat.le_of_ble_eq_true rfl) _ (ent_pad 2 rfl) (l_X8_write g _ _ _ _ _ H) (fun v355 h354 H hzv355 => ?_)
                                                                    refine wm_lcmp 1321 (by decide +kernel) rfl ?_
                                                                    refine wm_if_eq 1324 1616 (by decide +kernel : decode cL_law 1321 = .ok (.ifCond .eq 295, 3)) (by decide) rfl (fun c356 => ?_) (fun c356 => ?_)
                                                                    · replace H := H.1 c356
                                                                      replace H := H _ rfl
                                                                      refine wm_iinc 3 (_ + 6) 1619 [some _, some _, some _, some _] (by decide +kernel : decode cL_law 1616 = .ok (.iinc 3 6, 3)) rfl (by decide +kernel) rfl (ofI_eq (by decide +kernel)) (okS_spec rfl) rfl ?_
                                                                      refine wm_goto 18 (by decide +kernel : decode cL_law 1619 = .ok (.goto (-1601), 3)) (by decide) ?_
                                                                      exact ih _ _ H
                                                                    · replace H := H.2 c356
                                                                      refine wm_iconst 0 1325 (by decide +kernel : decode cL_law 1324 = .ok (.iconst 0, 1)) rfl (by decide +kernel) ?_
                                                                      exact wm_iret (by decide +kernel) ⟨.boolean, rfl, (by decide +kernel)⟩ H
                                                                  · skip
                                                                    refine em_go H (fun c358 H => ?_) (fun c358 H => ?_)
                                                                    · refine wm_tin (off := 1293) 31 1326 c358 (by decide +kernel : decode cL_law 33 = .ok (.tableswitch 1583 0 40 #[179, 212, 275, 308, 341, 384, 427, 460, 493, 526, 549, 572, 605, 638, 661, 704, 747, 780, 813, 856, 889, 932, 955, 998, 1031, 1074, 1117, 1150, 1163, 1176, 1219, 1293, 1356, 1379, 1412, 1455, 1498, 1511, 1524, 1537, 1560], 179)) (by decide +kernel) (by decide +kernel) (by decide +kernel) (by decide) ?_
                                                                      refine wm_aload_n 1 1327 (by decide +kernel) rfl rfl ?_
                                                                      refine wm_aload_n 0 1328 (by decide +kernel) rfl rfl ?_
                                                                      refine wm_iload_n 3 1329 (by decide +kernel) rfl rfl ?_
                                                                      refine wm_iconst 1 1330 (by decide +kernel : decode cL_law 1329 = .ok (.iconst 1, 1)) rfl (by decide +kernel) ?_
                                                                      refine wm_iadd 1331 (by decide +kernel) rfl ?_
                                                                      obtain ⟨o359, H⟩ := H
                                                                      refine wm_sald 1332 (by decide +kernel) rfl o359 ?_
                                                                      refine wm_aload_n 0 1333 (by decide +kernel) rfl rfl ?_
                                                                      refine wm_iload_n 3 1334 (by decide +kernel) rfl rfl ?_
                                                                      refine wm_iconst 2 1335 (by decide +kernel : decode cL_law 1334 = .ok (.iconst 2, 1)) rfl (by decide +kernel) ?_
                                                                      refine wm_iadd 1336 (by decide +kernel) rfl ?_
                                                                      obtain ⟨o360, H⟩ := H
                                                                      refine wm_sald 1337 (by decide +kernel) rfl o360 ?_
                                                                      refine wm_aload_n 0 1338 (by decide +kernel) rfl rfl ?_
                                                                      refine wm_iload_n 3 1339 (by decide +kernel) rfl rfl ?_
                                                                      refine wm_iconst 3 1340 (by decide +kernel : decode cL_law 1339 = .ok (.iconst 3, 1)) rfl (by decide +kernel) ?_
                                                                      refine wm_iadd 1341 (by decide +kernel) rfl ?_
                                                                      obtain ⟨o361, H⟩ := H
                                                                      refine wm_sald 1342 (by decide +kernel) rfl o361 ?_
                                                                      refine wm_aload_n 0 1343 (by decide +kernel) rfl rfl ?_
                                                                      refine wm_iload_n 3 1344 (by decide +kernel) rfl rfl ?_
                                                                      refine wm_iconst 4 1345 (by decide +kernel : decode cL_law 1344 = .ok (.iconst 4, 1)) rfl (by decide +kernel) ?_
                                                                      refine wm_iadd 1346 (by decide +kernel) rfl ?_
                                                                      obtain ⟨o362, H⟩ := H
                                                                      refine wm_sald 1347 (by decide +kernel) rfl o362 ?_
                                                                      refine wm_aload_n 0 1348 (by decide +kernel) rfl rfl ?_
                                                                      refine wm_iload_n 3 1349 (by decide +kernel) rfl rfl ?_
                                                                      refine wm_iconst 5 1350 (by decide +kernel : decode cL_law 1349 = .ok (.iconst 5, 1)) rfl (by decide +kernel) ?_
                                                                      refine wm_iadd 1351 (by decide +kernel) rfl ?_
                                                                      obtain ⟨o363, H⟩ := H
                                                                      refine wm_sald 1352 (by decide +kernel) rfl o363 ?_
                                                                      refine wm_callVi mX7_copy 5 7 [_, _, _, _, _] [] _ _ 1355 mo_X7_copy np_X7_copy ml_RL_145 im_X7_copy se_X7_copy (by decide +kernel) (by decide +kernel) rfl rfl rfl (Nat.le_of_ble_eq_true rfl) (by decide +kernel) rfl (Nat.le_of_ble_eq_true rfl) _ (ent_pad 2 rfl) (l_X7_copy g _ _ _ _ _ _ _ H) (fun v365 h364 H hzv365 => ?_)
                                                                      refine wm_aload_n 2 1356 (by decide +kernel) rfl rfl ?_
                                                                      refine wm_aload_n 0 1357 (by decide +kernel) rfl rfl ?_
                                                                      refine wm_iload_n 3 1358 (by decide +kernel) rfl rfl ?_
                                                                      refine wm_iconst 1 1359 (by decide +kernel : decode cL_law 1358 = .ok (.iconst 1, 1)) rfl (by decide +kernel) ?_
                                                                      refine wm_iadd 1360 (by decide +kernel) rfl ?_
                                                                      obtain ⟨o366, H⟩ := H
                                                                      refine wm_sald 1361 (by decide +kernel) rfl o366 ?_
                                                                      refine wm_aload_n 0 1362 (by decide +kernel) rfl rfl ?_
                                                                      refine wm_iload_n 3 1363 (by decide +kernel) rfl rfl ?_
                                                                      refine wm_iconst 2 1364 (by decide +kernel : decode cL_law 1363 = .ok (.iconst 2, 1)) rfl (by decide +kernel) ?_
                                                                      refine wm_iadd 1365 (by decide +kernel) rfl ?_
                                                                      obtain ⟨o367, H⟩ := H
                                                                      refine wm_sald 1366 (by decide +kernel) rfl o367 ?_
                                                                      refine wm_aload_n 0 1367 (by decide +kernel) rfl rfl ?_
                                                                      refine wm_iload_n 3 1368 (by decide +kernel) rfl rfl ?_
                                                                      refine wm_iconst 3 1369 (by decide +kernel : decode cL_law 1368 = .ok (.iconst 3, 1)) rfl (by decide +kernel) ?_
                                                                      refine wm_iadd 1370 (by decide +kernel) rfl ?_
                                                                      obtain ⟨o368, H⟩ := H
                                                                      refine wm_sald 1371 (by decide +kernel) rfl o368 ?_
                                                                      refine wm_aload_n 0 1372 (by decide +kernel) rfl rfl ?_
                                                                      refine wm_iload_n 3 1373 (by decide +kernel) rfl rfl ?_
                                                                      refine wm_iconst 4 1374 (by decide +kernel : decode cL_law 1373 = .ok (.iconst 4, 1)) rfl (by decide +kernel) ?_
                                                                      refine wm_iadd 1375 (by decide +kernel) rfl ?_
                                                                      obtain ⟨o369, H⟩ := H
                                                                      refine wm_sald 1376 (by decide +kernel) rfl o369 ?_
                                                                      refine wm_aload_n 0 1377 (by decide +kernel) rfl rfl ?_
                                                                      refine wm_iload_n 3 1378 (by decide +kernel) rfl rfl ?_
                                                                      refine wm_iconst 5 1379 (by decide +kernel : decode cL_law 1378 = .ok (.iconst 5, 1)) rfl (by decide +kernel) ?_
                                                                      refine wm_iadd 1380 (by decide +kernel) rfl ?_
                                                                      obtain ⟨o370, H⟩ := H
                                                                      refine wm_sald 1381 (by decide +kernel) rfl o370 ?_
                                                                      refine wm_callVi mX8_copy 5 8 [_, _, _, _, _] [_] _ _ 1384 mo_X8_copy np_X8_copy ml_RL_148 im_X8_copy se_X8_copy (by decide +kernel) (by decide +kernel) rfl rfl rfl (Nat.le_of_ble_eq_true rfl) (by decide +kernel) rfl (Nat.le_of_ble_eq_true rfl) _ (ent_pad 1 rfl) (l_X8_copy g _ _ _ _ _ _ _ H) (fun v372 h371 H hzv372 => ?_)
                                                                      refine wm_icmp_eq 1387 1616 (by decide +kernel : decode cL_law 1384 = .ok (.if_icmp .eq 232, 3)) (by decide) rfl (fun c373 => ?_) (fun c373 => ?_)
                                                                      · replace H := H.1 c373
                                                                        replace H := H _ rfl
                                                                        refine wm_iinc 3 (_ + 6) 1619 [some _, some _, some _, some _] (by decide +kernel : decode cL_law 1616 = .ok (.iinc 3 6, 3)) rfl (by decide +kernel) rfl (ofI_eq (by decide +kernel)) (okS_spec rfl) rfl ?_
                                                                        refine wm_goto 18 (by decide +kernel : decode cL_law 1619 = .ok (.goto (-1601), 3)) (by decide) ?_
                                                                        exact ih _ _ H
                                                                      · replace H := H.2 c373
                                                                        refine wm_iconst 0 1388 (by decide +kernel : decode cL_law 1387 = .ok (.iconst 0, 1)) rfl (by decide +kernel) ?_
                                                                        exact wm_iret (by decide +kernel) ⟨.boolean, rfl, (by decide +kernel)⟩ H
                                                                    · skip
                                                                      refine em_go H (fun c375 H => ?_) (fun c375 H => ?_)
                                                                      · refine wm_tin (off := 1356) 32 1389 c375 (by decide +kernel : decode cL_law 33 = .ok (.tableswitch 1583 0 40 #[179, 212, 275, 308, 341, 384, 427, 460, 493, 526, 549, 572, 605, 638, 661, 704, 747, 780, 813, 856, 889, 932, 955, 998, 1031, 1074, 1117, 1150, 1163, 1176, 1219, 1293, 1356, 1379, 1412, 1455, 1498, 1511, 1524, 1537, 1560], 179)) (by decide +kernel) (by decide +kernel) (by decide +kernel) (by decide) ?_
                                                                        refine wm_aload_n 1 1390 (by decide +kernel) rfl rfl ?_
                                                                        refine wm_aload_n 0 1391 (by decide +kernel) rfl rfl ?_
                                                                        refine wm_iload_n 3 1392 (by decide +kernel) rfl rfl ?_
                                                                        refine wm_iconst 1 1393 (by decide +kernel : decode cL_law 1392 = .ok (.iconst 1, 1)) rfl (by decide +kernel) ?_
                                                                        refine wm_iadd 1394 (by decide +kernel) rfl ?_
                                                                        obtain ⟨o376, H⟩ := H
                                                                        refine wm_sald 1395 (by decide +kernel) rfl o376 ?_
                                                                        refine wm_callVi mX7_lays 1 7 [_] [] _ _ 1398 mo_X7_lays np_X7_lays ml_RL_149 im_X7_lays se_X7_lays (by decide +kernel) (by decide +kernel) rfl rfl rfl (Nat.le_of_ble_eq_true rfl) (by decide +kernel) rfl (Nat.le_of_ble_eq_true rfl) _ (ent_pad 6 rfl) (l_X7_lays g _ _ _ H) (fun v378 h377 H hzv378 => ?_)
                                                                        refine wm_aload_n 2 1399 (by decide +kernel) rfl rfl ?_
                                                                        refine wm_aload_n 0 1400 (by decide +kernel) rfl rfl ?_
                                                                        refine wm_iload_n 3 1401 (by decide +kernel) rfl rfl ?_
                                                                        refine wm_iconst 1 1402 (by decide +kernel : decode cL_law 1401 = .ok (.iconst 1, 1)) rfl (by decide +kernel) ?_
                                                                        refine wm_iadd 1403 (by decide +kernel) rfl ?_
                                                                        obtain ⟨o379, H⟩ := H
                                                                        refine wm_sald 1404 (by decide +kernel) rfl o379 ?_
                                                                        refine wm_callVi mX8_lays 1 8 [_] [_] _ _ 1407 mo_X8_lays np_X8_lays ml_RL_152 im_X8_lays se_X8_lays (by decide +kernel) (by decide +kernel) rfl rfl rfl (Nat.le_of_ble_eq_true rfl) (by decide +kernel) rfl (Nat.le_of_ble_eq_true rfl) _ (ent_pad 4 rfl) (l_X8_lays g _ _ _ H) (fun v381 h380 H hzv381 => ?_)
                                                                        refine wm_icmp_eq 1410 1616 (by decide +kernel : decode cL_law 1407 = .ok (.if_icmp .eq 209, 3)) (by decide) rfl (fun c382 => ?_) (fun c382 => ?_)
                                                                        · replace H := H.1 c382
                                                                          replace H := H _ rfl
                                                                          refine wm_iinc 3 (_ + 6) 1619 [some _, some _, some _, some _] (by decide +kernel : decode cL_law 1616 = .ok (.iinc 3 6, 3)) rfl (by decide +kernel) rfl (ofI_eq (by decide +kernel)) (okS_spec rfl) rfl ?_
                                                                          refine wm_goto 18 (by decide +kernel : decode cL_law 1619 = .ok (.goto (-1601), 3)) (by decide) ?_
                                                                          exact ih _ _ H
                                                                        · replace H := H.2 c382
                                                                          refine wm_iconst 0 1411 (by decide +kernel : decode cL_law 1410 = .ok (.iconst 0, 1)) rfl (by decide +kernel) ?_
                                                                          exact wm_iret (by decide +kernel) ⟨.boolean, rfl, (by decide +kernel)⟩ H
                                                                      · skip
                                                                        refine em_go H (fun c384 H => ?_) (fun c384 H => ?_)
                                                                        · refine wm_tin (off := 1379) 33 1412 c384 (by decide +kernel : decode cL_law 33 = .ok (.tableswitch 1583 0 40 #[179, 212, 275, 308, 341, 384, 427, 460, 493, 526, 549, 572, 605, 638, 661, 704, 747, 780, 813, 856, 889, 932, 955, 998, 1031, 1074, 1117, 1150, 1163, 1176, 1219, 1293, 1356, 1379, 1412, 1455, 1498, 1511, 1524, 1537, 1560], 179)) (by decide +kernel) (by decide +kernel) (by decide +kernel) (by decide) ?_
                                                                          refine wm_aload_n 1 1413 (by decide +kernel) rfl rfl ?_
                                                                          refine wm_aload_n 0 1414 (by decide +kernel) rfl rfl ?_
                                                                          refine wm_iload_n 3 1415 (by decide +kernel) rfl rfl ?_
                                                                          refine wm_iconst 1 1416 (by decide +kernel : decode cL_law 1415 = .ok (.iconst 1, 1)) rfl (by decide +kernel) ?_
                                                                          refine wm_iadd 1417 (by decide +kernel) rfl ?_
                                                                          obtain ⟨o385, H⟩ := H
                                                                          refine wm_sald 1418 (by decide +kernel) rfl o385 ?_
                                                                          refine wm_aload_n 0 1419 (by decide +kernel) rfl rfl ?_
                                                                          refine wm_iload_n 3 1420 (by decide +kernel) rfl rfl ?_
                                                                          refine wm_iconst 2 1421 (by decide +kernel : decode cL_law 1420 = .ok (.iconst 2, 1)) rfl (by decide +kernel) ?_
                                                                          refine wm_iadd 1422 (by decide +kernel) rfl ?_
                                                                          obtain ⟨o386, H⟩ := H
                                                                          refine wm_sald 1423 (by decide +kernel) rfl o386 ?_
                                                                          refine wm_callVi mX7_book 2 7 [_, _] [] _ _ 1426 mo_X7_book np_X7_book ml_RL_153 im_X7_book se_X7_book (by decide +kernel) (by decide +kernel) rfl rfl rfl (Nat.le_of_ble_eq_true rfl) (by decide +kernel) rfl (Nat.le_of_ble_eq_true rfl) _ (ent_pad 4 rfl) (l_X7_book g _ _ _ _ H) (fun v388 h387 H hzv388 => ?_)
                                                                          refine wm_aload_n 2 1427 (by decide +kernel) rfl rfl ?_
                                                                          refine wm_aload_n 0 1428 (by decide +kernel) rfl rfl ?_
                                                                          refine wm_iload_n 3 1429 (by decide +kernel) rfl rfl ?_
                                                                          refine wm_iconst 1 1430 (by decide +kernel : decode cL_law 1429 = .ok (.iconst 1, 1)) rfl (by decide +kernel) ?_
                                                                          refine wm_iadd 1431 (by decide +kernel) rfl ?_
                                                                          obtain ⟨o389, H⟩ := H
                                                                          refine wm_sald 1432 (by decide +kernel) rfl o389 ?_
                                                                          refine wm_aload_n 0 1433 (by decide +kernel) rfl rfl ?_
                                                                          refine wm_iload_n 3 1434 (by decide +kernel) rfl rfl ?_
                                                                          refine wm_iconst 2 1435 (by decide +kernel : decode cL_law 1434 = .ok (.iconst 2, 1)) rfl (by decide +kernel) ?_
                                                                          refine wm_iadd 1436 (by decide +kernel) rfl ?_
                                                                          obtain ⟨o390, H⟩ := H
                                                                          refine wm_sald 1437 (by decide +kernel) rfl o390 ?_
                                                                          refine wm_callVi mX8_book 2 8 [_, _] [_] _ _ 1440 mo_X8_book np_X8_book ml_RL_156 im_X8_book se_X8_book (by decide +kernel) (by decide +kernel) rfl rfl rfl (Nat.le_of_ble_eq_true rfl) (by decide +kernel) rfl (Nat.le_of_ble_eq_true rfl) _ (ent_pad 2 rfl) (l_X8_book g _ _ _ _ H) (fun v392 h391 H hzv392 => ?_)
                                                                          refine wm_icmp_eq 1443 1616 (by decide +kernel : decode cL_law 1440 = .ok (.if_icmp .eq 176, 3)) (by decide) rfl (fun c393 => ?_) (fun c393 => ?_)
                                                                          · replace H := H.1 c393
                                                                            replace H := H _ rfl
                                                                            refine wm_iinc 3 (_ + 6) 1619 [some _, some _, some _, some _] (by decide +kernel : decode cL_law 1616 = .ok (.iinc 3 6, 3)) rfl (by decide +kernel) rfl (ofI_eq (by decide +kernel)) (okS_spec rfl) rfl ?_
                                                                            refine wm_goto 18 (by decide +kernel : decode cL_law 1619 = .ok (.goto (-1601), 3)) (by decide) ?_
                                                                            exact ih _ _ H
                                                                          · replace H := H.2 c393
                                                                            refine wm_iconst 0 1444 (by decide +kernel : decode cL_law 1443 = .ok (.iconst 0, 1)) rfl (by decide +kernel) ?_
                                                                            exact wm_iret (by decide +kernel) ⟨.boolean, rfl, (by decide +kernel)⟩ H
                                                                        · skip
                                                                          refine em_go H (fun c395 H => ?_) (fun c395 H => ?_)
                                                                          · refine wm_tin (off := 1412) 34 1445 c395 (by decide +kernel : decode cL_law 33 = .ok (.tableswitch 1583 0 40 #[179, 212, 275, 308, 341, 384, 427, 460, 493, 526, 549, 572, 605, 638, 661, 704, 747, 780, 813, 856, 889, 932, 955, 998, 1031, 1074, 1117, 1150, 1163, 1176, 1219, 1293, 1356, 1379, 1412, 1455, 1498, 1511, 1524, 1537, 1560], 179)) (by decide +kernel) (by decide +kernel) (by decide +kernel) (by decide) ?_
                                                                            refine wm_aload_n 1 1446 (by decide +kernel) rfl rfl ?_
                                                                            refine wm_aload_n 0 1447 (by decide +kernel) rfl rfl ?_
                                                                            refine wm_iload_n 3 1448 (by decide +kernel) rfl rfl ?_
                                                                            refine wm_iconst 1 1449 (by decide +kernel : decode cL_law 1448 = .ok (.iconst 1, 1)) rfl (by decide +kernel) ?_
                                                                            refine wm_iadd 1450 (by decide +kernel) rfl ?_
                                                                            obtain ⟨o396, H⟩ := H
                                                                            refine wm_sald 1451 (by decide +kernel) rfl o396 ?_
                                                                            refine wm_aload_n 0 1452 (by decide +kernel) rfl rfl ?_
                                                                            refine wm_iload_n 3 1453 (by decide +kernel) rfl rfl ?_
                                                                            refine wm_iconst 2 1454 (by decide +kernel : decode cL_law 1453 = .ok (.iconst 2, 1)) rfl (by decide +kernel) ?_
                                                                            refine wm_iadd 1455 (by decide +kernel) rfl ?_
                                                                            obtain ⟨o397, H⟩ := H
                                                                            refine wm_sald 1456 (by decide +kernel) rfl o397 ?_
                                                                            refine wm_aload_n 0 1457 (by decide +kernel) rfl rfl ?_
                                                                            refine wm_iload_n 3 1458 (by decide +kernel) rfl rfl ?_
                                                                            refine wm_iconst 3 1459 (by decide +kernel : decode cL_law 1458 = .ok (.iconst 3, 1)) rfl (by decide +kernel) ?_
                                                                            refine wm_iadd 1460 (by decide +kernel) rfl ?_
                                                                            obtain ⟨o398, H⟩ := H
                                                                            refine wm_sald 1461 (by decide +kernel) rfl o398 ?_
                                                                            refine wm_callVi mX7_replay 3 7 [_, _, _] [] _ _ 1464 mo_X7_replay np_X7_replay ml_RL_157 im_X7_replay se_X7_replay (by decide +kernel) (by decide +kernel) rfl rfl rfl (Nat.le_of_ble_eq_true rfl) (by decide +kernel) rfl (Nat.le_of_ble_eq_true rfl) _ (ent_pad 1 rfl) (l_X7_replay g _ _ _ _ _ H) (fun v400 h399 H hzv400 => ?_)
                                                                            refine wm_aload_n 2 1465 (by decide +kernel) rfl rfl ?_
                                                                            refine wm_aload_n 0 1466 (by decide +kernel) rfl rfl ?_
                                                                            refine wm_iload_n 3 1467 (by decide +kernel) rfl rfl ?_
                                                                            refine wm_iconst 1 1468 (by decide +kernel : decode cL_law 1467 = .ok (.iconst 1, 1)) rfl (by decide +kernel) ?_
                                                                            refine wm_iadd 1469 (by decide +kernel) rfl ?_
                                                                            obtain ⟨o401, H⟩ := H
                                                                            refine wm_sald 1470 (by decide +kernel) rfl o401 ?_
                                                                            refine wm_aload_n 0 1471 (by decide +kernel) rfl rfl ?_
                                                                            refine wm_iload_n 3 1472 (by decide +kernel) rfl rfl ?_
                                                                            refine wm_iconst 2 1473 (by decide +kernel : decode cL_law 1472 = .ok (.iconst 2, 1)) rfl (by decide +kernel) ?_
                                                                            refine wm_iadd 1474 (by decide +kernel) rfl ?_
                                                                            obtain ⟨o402, H⟩ := H
                                                                            refine wm_sald 1475 (by decide +kernel) rfl o402 ?_
                                                                            refine wm_aload_n 0 1476 (by decide +kernel) rfl rfl ?_
                                                                            refine wm_iload_n 3 1477 (by decide +kernel) rfl rfl ?_
                                                                            refine wm_iconst 3 1478 (by decide +kernel : decode cL_law 1477 = .ok (.iconst 3, 1)) rfl (by decide +kernel) ?_
                                                                            refine wm_iadd 1479 (by decide +kernel) rfl ?_
                                                                            obtain ⟨o403, H⟩ := H
                                                                            refine wm_sald 1480 (by decide +kernel) rfl o403 ?_
                                                                            refine wm_callVi mX8_replay 3 8 [_, _, _] [_] _ _ 1483 mo_X8_replay np_X8_replay ml_RL_160 im_X8_replay se_X8_replay (by decide +kernel) (by decide +kernel) rfl rfl rfl (Nat.le_of_ble_eq_true rfl) (by decide +kernel) rfl (Nat.le_of_ble_eq_true rfl) _ (ent_pad 0 rfl) (l_X8_replay g _ _ _ _ _ H) (fun v405 h404 H hzv405 => ?_)
                                                                            refine wm_icmp_eq 1486 1616 (by decide +kernel : decode cL_law 1483 = .ok (.if_icmp .eq 133, 3)) (by decide) rfl (fun c406 => ?_) (fun c406 => ?_)
                                                                            · replace H := H.1 c406
                                                                              replace H := H _ rfl
                                                                              refine wm_iinc 3 (_ + 6) 1619 [some _, some _, some _, some _] (by decide +kernel : decode cL_law 1616 = .ok (.iinc 3 6, 3)) rfl (by decide +kernel) rfl (ofI_eq (by decide +kernel)) (okS_spec rfl) rfl ?_
                                                                              refine wm_goto 18 (by decide +kernel : decode cL_law 1619 = .ok (.goto (-1601), 3)) (by decide) ?_
                                                                              exact ih _ _ H
                                                                            · replace H := H.2 c406
                                                                              refine wm_iconst 0 1487 (by decide +kernel : decode cL_law 1486 = .ok (.iconst 0, 1)) rfl (by decide +kernel) ?_
                                                                              exact wm_iret (by decide +kernel) ⟨.boolean, rfl, (by decide +kernel)⟩ H
                                                                          · skip
                                                                            refine em_go H (fun c408 H => ?_) (fun c408 H => ?_)
                                                                            · refine wm_tin (off := 1455) 35 1488 c408 (by decide +kernel : decode cL_law 33 = .ok (.tableswitch 1583 0 40 #[179, 212, 275, 308, 341, 384, 427, 460, 493, 526, 549, 572, 605, 638, 661, 704, 747, 780, 813, 856, 889, 932, 955, 998, 1031, 1074, 1117, 1150, 1163, 1176, 1219, 1293, 1356, 1379, 1412, 1455, 1498, 1511, 1524, 1537, 1560], 179)) (by decide +kernel) (by decide +kernel) (by decide +kernel) (by decide) ?_
                                                                              refine wm_aload_n 1 1489 (by decide +kernel) rfl rfl ?_
                                                                              refine wm_aload_n 0 1490 (by decide +kernel) rfl rfl ?_
                                                                              refine wm_iload_n 3 1491 (by decide +kernel) rfl rfl ?_
                                                                              refine wm_iconst 1 1492 (by decide +kernel : decode cL_law 1491 = .ok (.iconst 1, 1)) rfl (by decide +kernel) ?_
                                                                              refine wm_iadd 1493 (by decide +kernel) rfl ?_
                                                                              obtain ⟨o409, H⟩ := H
                                                                              refine wm_sald 1494 (by decide +kernel) rfl o409 ?_
                                                                              refine wm_aload_n 0 1495 (by decide +kernel) rfl rfl ?_
                                                                              refine wm_iload_n 3 1496 (by decide +kernel) rfl rfl ?_
                                                                              refine wm_iconst 2 1497 (by decide +kernel : decode cL_law 1496 = .ok (.iconst 2, 1)) rfl (by decide +kernel) ?_
                                                                              refine wm_iadd 1498 (by decide +kernel) rfl ?_
                                                                              obtain ⟨o410, H⟩ := H
                                                                              refine wm_sald 1499 (by decide +kernel) rfl o410 ?_
                                                                              refine wm_aload_n 0 1500 (by decide +kernel) rfl rfl ?_
                                                                              refine wm_iload_n 3 1501 (by decide +kernel) rfl rfl ?_
                                                                              refine wm_iconst 3 1502 (by decide +kernel : decode cL_law 1501 = .ok (.iconst 3, 1)) rfl (by decide +kernel) ?_
                                                                              refine wm_iadd 1503 (by decide +kernel) rfl ?_
                                                                              obtain ⟨o411, H⟩ := H
                                                                              refine wm_sald 1504 (by decide +kernel) rfl o411 ?_
                                                                              refine wm_callVi mX7_run 3 7 [_, _, _] [] _ _ 1507 mo_X7_run np_X7_run ml_RL_161 im_X7_run se_X7_run (by decide +kernel) (by decide +kernel) rfl rfl rfl (Nat.le_of_ble_eq_true rfl) (by decide +kernel) rfl (Nat.le_of_ble_eq_true rfl) _ (ent_pad 2 rfl) (l_X7_run g _ _ _ _ _ H) (fun v413 h412 H hzv413 => ?_)
                                                                              refine wm_aload_n 2 1508 (by decide +kernel) rfl rfl ?_
                                                                              refine wm_aload_n 0 1509 (by decide +kernel) rfl rfl ?_
                                                                              refine wm_iload_n 3 1510 (by decide +kernel) rfl rfl ?_
                                                                              refine wm_iconst 1 1511 (by decide +kernel : decode cL_law 1510 = .ok (.iconst 1, 1)) rfl (by decide +kernel) ?_
                                                                              refine wm_iadd 1512 (by decide +kernel) rfl ?_
                                                                              obtain ⟨o414, H⟩ := H
                                                                              refine wm_sald 1513 (by decide +kernel) rfl o414 ?_
                                                                              refine wm_aload_n 0 1514 (by decide +kernel) rfl rfl ?_
                                                                              refine wm_iload_n 3 1515 (by decide +kernel) rfl rfl ?_
                                                                              refine wm_iconst 2 1516 (by decide +kernel : decode cL_law 1515 = .ok (.iconst 2, 1)) rfl (by decide +kernel) ?_
                                                                              refine wm_iadd 1517 (by decide +kernel) rfl ?_
                                                                              obtain ⟨o415, H⟩ := H
                                                                              refine wm_sald 1518 (by decide +kernel) rfl o415 ?_
                                                                              refine wm_aload_n 0 1519 (by decide +kernel) rfl rfl ?_
                                                                              refine wm_iload_n 3 1520 (by decide +kernel) rfl rfl ?_
                                                                              refine wm_iconst 3 1521 (by decide +kernel : decode cL_law 1520 = .ok (.iconst 3, 1)) rfl (by decide +kernel) ?_
                                                                              refine wm_iadd 1522 (by decide +kernel) rfl ?_
                                                                              obtain ⟨o416, H⟩ := H
                                                                              refine wm_sald 1523 (by decide +kernel) rfl o416 ?_
                                                                              refine wm_callVi mX8_run 3 8 [_, _, _] [_] _ _ 1526 mo_X8_run np_X8_run ml_RL_164 im_X8_run se_X8_run (by decide +kernel) (by decide +kernel) rfl rfl rfl (Nat.le_of_ble_eq_true rfl) (by decide +kernel) rfl (Nat.le_of_ble_eq_true rfl) _ (ent_pad 0 rfl) (l_X8_run g _ _ _ _ _ H) (fun v418 h417 H hzv418 => ?_)
                                                                              refine wm_icmp_eq 1529 1616 (by decide +kernel : decode cL_law 1526 = .ok (.if_icmp .eq 90, 3)) (by decide) rfl (fun c419 => ?_) (fun c419 => ?_)
                                                                              · replace H := H.1 c419
                                                                                replace H := H _ rfl
                                                                                refine wm_iinc 3 (_ + 6) 1619 [some _, some _, some _, some _] (by decide +kernel : decode cL_law 1616 = .ok (.iinc 3 6, 3)) rfl (by decide +kernel) rfl (ofI_eq (by decide +kernel)) (okS_spec rfl) rfl ?_
                                                                                refine wm_goto 18 (by decide +kernel : decode cL_law 1619 = .ok (.goto (-1601), 3)) (by decide) ?_
                                                                                exact ih _ _ H
                                                                              · replace H := H.2 c419
                                                                                refine wm_iconst 0 1530 (by decide +kernel : decode cL_law 1529 = .ok (.iconst 0, 1)) rfl (by decide +kernel) ?_
                                                                                exact wm_iret (by decide +kernel) ⟨.boolean, rfl, (by decide +kernel)⟩ H
                                                                            · skip
                                                                              refine em_go H (fun c421 H => ?_) (fun c421 H => ?_)
                                                                              · refine wm_tin (off := 1498) 36 1531 c421 (by decide +kernel : decode cL_law 33 = .ok (.tableswitch 1583 0 40 #[179, 212, 275, 308, 341, 384, 427, 460, 493, 526, 549, 572, 605, 638, 661, 704, 747, 780, 813, 856, 889, 932, 955, 998, 1031, 1074, 1117, 1150, 1163, 1176, 1219, 1293, 1356, 1379, 1412, 1455, 1498, 1511, 1524, 1537, 1560], 179)) (by decide +kernel) (by decide +kernel) (by decide +kernel) (by decide) ?_
                                                                                refine wm_aload_n 1 1532 (by decide +kernel) rfl rfl ?_
                                                                                refine wm_callVi mX7_image 0 7 [] [] _ _ 1535 mo_X7_image np_X7_image ml_RL_165 im_X7_image se_X7_image (by decide +kernel) (by decide +kernel) rfl rfl rfl (Nat.le_of_ble_eq_true rfl) (by decide +kernel) rfl (Nat.le_of_ble_eq_true rfl) _ (ent_pad 0 rfl) (l_X7_image g _ _ H) (fun v423 h422 H hzv423 => ?_)
                                                                                refine wm_aload_n 2 1536 (by decide +kernel) rfl rfl ?_
                                                                                refine wm_callVi mX8_image 0 8 [] [_] _ _ 1539 mo_X8_image np_X8_image ml_RL_168 im_X8_image se_X8_image (by decide +kernel) (by decide +kernel) rfl rfl rfl (Nat.le_of_ble_eq_true rfl) (by decide +kernel) rfl (Nat.le_of_ble_eq_true rfl) _ (ent_pad 0 rfl) (l_X8_image g _ _ H) (fun v425 h424 H hzv425 => ?_)
                                                                                refine wm_icmp_eq 1542 1616 (by decide +kernel : decode cL_law 1539 = .ok (.if_icmp .eq 77, 3)) (by decide) rfl (fun c426 => ?_) (fun c426 => ?_)
                                                                                · replace H := H.1 c426
                                                                                  replace H := H _ rfl
                                                                                  refine wm_iinc 3 (_ + 6) 1619 [some _, some _, some _, some _] (by decide +kernel : decode cL_law 1616 = .ok (.iinc 3 6, 3)) rfl (by decide +kernel) rfl (ofI_eq (by decide +kernel)) (okS_spec rfl) rfl ?_
                                                                                  refine wm_goto 18 (by decide +kernel : decode cL_law 1619 = .ok (.goto (-1601), 3)) (by decide) ?_
                                                                                  exact ih _ _ H
                                                                                · replace H := H.2 c426
                                                                                  refine wm_iconst 0 1543 (by decide +kernel : decode cL_law 1542 = .ok (.iconst 0, 1)) rfl (by decide +kernel) ?_
                                                                                  exact wm_iret (by decide +kernel) ⟨.boolean, rfl, (by decide +kernel)⟩ H
                                                                              · skip
                                                                                refine em_go H (fun c428 H => ?_) (fun c428 H => ?_)
                                                                                · refine wm_tin (off := 1511) 37 1544 c428 (by decide +kernel : decode cL_law 33 = .ok (.tableswitch 1583 0 40 #[179, 212, 275, 308, 341, 384, 427, 460, 493, 526, 549, 572, 605, 638, 661, 704, 747, 780, 813, 856, 889, 932, 955, 998, 1031, 1074, 1117, 1150, 1163, 1176, 1219, 1293, 1356, 1379, 1412, 1455, 1498, 1511, 1524, 1537, 1560], 179)) (by decide +kernel) (by decide +kernel) (by decide +kernel) (by decide) ?_
                                                                                  refine wm_aload_n 1 1545 (by decide +kernel) rfl rfl ?_
                                                                                  refine wm_callVi mX7_undo 0 7 [] [] _ _ 1548 mo_X7_undo np_X7_undo ml_RL_169 im_X7_undo se_X7_undo (by decide +kernel) (by decide +kernel) rfl rfl rfl (Nat.le_of_ble_eq_true rfl) (by decide +kernel) rfl (Nat.le_of_ble_eq_true rfl) _ (ent_pad 0 rfl) (l_X7_undo g _ _ H) (fun v430 h429 H hzv430 => ?_)
                                                                                  refine wm_aload_n 2 1549 (by decide +kernel) rfl rfl ?_
                                                                                  refine wm_callVi mX8_undo 0 8 [] [_] _ _ 1552 mo_X8_undo np_X8_undo ml_RL_172 im_X8_undo se_X8_undo (by decide +kernel) (by decide +kernel) rfl rfl rfl (Nat.le_of_ble_eq_true rfl) (by decide +kernel) rfl (Nat.le_of_ble_eq_true rfl) _ (ent_pad 0 rfl) (l_X8_undo g _ _ H) (fun v432 h431 H hzv432 => ?_)
                                                                                  refine wm_icmp_eq 1555 1616 (by decide +kernel : decode cL_law 1552 = .ok (.if_icmp .eq 64, 3)) (by decide) rfl (fun c433 => ?_) (fun c433 => ?_)
                                                                                  · replace H := H.1 c433
                                                                                    replace H := H _ rfl
                                                                                    refine wm_iinc 3 (_ + 6) 1619 [some _, some _, some _, some _] (by decide +kernel : decode cL_law 1616 = .ok (.iinc 3 6, 3)) rfl (by decide +kernel) rfl (ofI_eq (by decide +kernel)) (okS_spec rfl) rfl ?_
                                                                                    refine wm_goto 18 (by decide +kernel : decode cL_law 1619 = .ok (.goto (-1601), 3)) (by decide) ?_
                                                                                    exact ih _ _ H
                                                                                  · replace H := H.2 c433
                                                                                    refine wm_iconst 0 1556 (by decide +kernel : decode cL_law 1555 = .ok (.iconst 0, 1)) rfl (by decide +kernel) ?_
                                                                                    exact wm_iret (by decide +kernel) ⟨.boolean, rfl, (by decide +kernel)⟩ H
                                                                                · skip
                                                                                  refine em_go H (fun c435 H => ?_) (fun c435 H => ?_)
                                                                                  · refine wm_tin (off := 1524) 38 1557 c435 (by decide +kernel : decode cL_law 33 = .ok (.tableswitch 1583 0 40 #[179, 212, 275, 308, 341, 384, 427, 460, 493, 526, 549, 572, 605, 638, 661, 704, 747, 780, 813, 856, 889, 932, 955, 998, 1031, 1074, 1117, 1150, 1163, 1176, 1219, 1293, 1356, 1379, 1412, 1455, 1498, 1511, 1524, 1537, 1560], 179)) (by decide +kernel) (by decide +kernel) (by decide +kernel) (by decide) ?_
                                                                                    refine wm_aload_n 1 1558 (by decide +kernel) rfl rfl ?_
                                                                                    refine wm_callVi mX7_tear 0 7 [] [] _ _ 1561 mo_X7_tear np_X7_tear ml_RL_173 im_X7_tear se_X7_tear (by decide +kernel) (by decide +kernel) rfl rfl rfl (Nat.le_of_ble_eq_true rfl) (by decide +kernel) rfl (Nat.le_of_ble_eq_true rfl) _ (ent_pad 1 rfl) (l_X7_tear g _ _ H) (fun v437 h436 H hzv437 => ?_)
                                                                                    refine wm_aload_n 2 1562 (by decide +kernel) rfl rfl ?_
                                                                                    refine wm_callVi mX8_tear 0 8 [] [_] _ _ 1565 mo_X8_tear np_X8_tear ml_RL_176 im_X8_tear se_X8_tear (by decide +kernel) (by decide +kernel) rfl rfl rfl (Nat.le_of_ble_eq_true rfl) (by decide +kernel) rfl (Nat.le_of_ble_eq_true rfl) _ (ent_pad 1 rfl) (l_X8_tear g _ _ H) (fun v439 h438 H hzv439 => ?_)
                                                                                    refine wm_icmp_eq 1568 1616 (by decide +kernel : decode cL_law 1565 = .ok (.if_icmp .eq 51, 3)) (by decide) rfl (fun c440 => ?_) (fun c440 => ?_)
                                                                                    · replace H := H.1 c440
                                                                                      replace H := H _ rfl
                                                                                      refine wm_iinc 3 (_ + 6) 1619 [some _, some _, some _, some _] (by decide +kernel : decode cL_law 1616 = .ok (.iinc 3 6, 3)) rfl (by decide +kernel) rfl (ofI_eq (by decide +kernel)) (okS_spec rfl) rfl ?_
                                                                                      refine wm_goto 18 (by decide +kernel : decode cL_law 1619 = .ok (.goto (-1601), 3)) (by decide) ?_
                                                                                      exact ih _ _ H
                                                                                    · replace H := H.2 c440
                                                                                      refine wm_iconst 0 1569 (by decide +kernel : decode cL_law 1568 = .ok (.iconst 0, 1)) rfl (by decide +kernel) ?_
                                                                                      exact wm_iret (by decide +kernel) ⟨.boolean, rfl, (by decide +kernel)⟩ H
                                                                                  · skip
                                                                                    refine em_go H (fun c442 H => ?_) (fun c442 H => ?_)
                                                                                    · refine wm_tin (off := 1537) 39 1570 c442 (by decide +kernel : decode cL_law 33 = .ok (.tableswitch 1583 0 40 #[179, 212, 275, 308, 341, 384, 427, 460, 493, 526, 549, 572, 605, 638, 661, 704, 747, 780, 813, 856, 889, 932, 955, 998, 1031, 1074, 1117, 1150, 1163, 1176, 1219, 1293, 1356, 1379, 1412, 1455, 1498, 1511, 1524, 1537, 1560], 179)) (by decide +kernel) (by decide +kernel) (by decide +kernel) (by decide) ?_
                                                                                      refine wm_aload_n 1 1571 (by decide +kernel) rfl rfl ?_
                                                                                      refine wm_aload_n 0 1572 (by decide +kernel) rfl rfl ?_
                                                                                      refine wm_iload_n 3 1573 (by decide +kernel) rfl rfl ?_
                                                                                      refine wm_iconst 1 1574 (by decide +kernel : decode cL_law 1573 = .ok (.iconst 1, 1)) rfl (by decide +kernel) ?_
                                                                                      refine wm_iadd 1575 (by decide +kernel) rfl ?_
                                                                                      obtain ⟨o443, H⟩ := H
                                                                                      refine wm_sald 1576 (by decide +kernel) rfl o443 ?_
                                                                                      refine wm_callVi mX7_count 1 7 [_] [] _ _ 1579 mo_X7_count np_X7_count ml_RL_177 im_X7_count se_X7_count (by decide +kernel) (by decide +kernel) rfl rfl rfl (Nat.le_of_ble_eq_true rfl) (by decide +kernel) rfl (Nat.le_of_ble_eq_true rfl) _ (ent_pad 0 rfl) (l_X7_count g _ _ _ H) (fun v445 h444 H hzv445 => ?_)
                                                                                      refine wm_aload_n 2 1580 (by decide +kernel) rfl rfl ?_
                                                                                      refine wm_aload_n 0 1581 (by decide +kernel) rfl rfl ?_
                                                                                      refine wm_iload_n 3 1582 (by decide +kernel) rfl rfl ?_
                                                                                      refine wm_iconst 1 1583 (by decide +kernel : decode cL_law 1582 = .ok (.iconst 1, 1)) rfl (by decide +kernel) ?_
                                                                                      refine wm_iadd 1584 (by decide +kernel) rfl ?_
                                                                                      obtain ⟨o446, H⟩ := H
                                                                                      refine wm_sald 1585 (by decide +kernel) rfl o446 ?_
                                                                                      refine wm_callVi mX8_count 1 8 [_] [_] _ _ 1588 mo_X8_count np_X8_count ml_RL_180 im_X8_count se_X8_count (by decide +kernel) (by decide +kernel) rfl rfl rfl (Nat.le_of_ble_eq_true rfl) (by decide +kernel) rfl (Nat.le_of_ble_eq_true rfl) _ (ent_pad 0 rfl) (l_X8_count g _ _ _ H) (fun v448 h447 H hzv448 => ?_)
                                                                                      refine wm_icmp_eq 1591 1616 (by decide +kernel : decode cL_law 1588 = .ok (.if_icmp .eq 28, 3)) (by decide) rfl (fun c449 => ?_) (fun c449 => ?_)
                                                                                      · replace H := H.1 c449
                                                                                        replace H := H _ rfl
                                                                                        refine wm_iinc 3 (_ + 6) 1619 [some _, some _, some _, some _] (by decide +kernel : decode cL_law 1616 = .ok (.iinc 3 6, 3)) rfl (by decide +kernel) rfl (ofI_eq (by decide +kernel)) (okS_spec rfl) rfl ?_
                                                                                        refine wm_goto 18 (by decide +kernel : decode cL_law 1619 = .ok (.goto (-1601), 3)) (by decide) ?_
                                                                                        exact ih _ _ H
                                                                                      · replace H := H.2 c449
                                                                                        refine wm_iconst 0 1592 (by decide +kernel : decode cL_law 1591 = .ok (.iconst 0, 1)) rfl (by decide +kernel) ?_
                                                                                        exact wm_iret (by decide +kernel) ⟨.boolean, rfl, (by decide +kernel)⟩ H
                                                                                    · skip
                                                                                      refine em_go H (fun c451 H => ?_) (fun c451 H => ?_)
                                                                                      · refine wm_tin (off := 1560) 40 1593 c451 (by decide +kernel : decode cL_law 33 = .ok (.tableswitch 1583 0 40 #[179, 212, 275, 308, 341, 384, 427, 460, 493, 526, 549, 572, 605, 638, 661, 704, 747, 780, 813, 856, 889, 932, 955, 998, 1031, 1074, 1117, 1150, 1163, 1176, 1219, 1293, 1356, 1379, 1412, 1455, 1498, 1511, 1524, 1537, 1560], 179)) (by decide +kernel) (by decide +kernel) (by decide +kernel) (by decide) ?_
                                                                                        refine wm_aload_n 1 1594 (by decide +kernel) rfl rfl ?_
                                                                                        refine wm_aload_n 0 1595 (by decide +kernel) rfl rfl ?_
                                                                                        refine wm_iload_n 3 1596 (by decide +kernel) rfl rfl ?_
                                                                                        refine wm_iconst 1 1597 (by decide +kernel : decode cL_law 1596 = .ok (.iconst 1, 1)) rfl (by decide +kernel) ?_
                                                                                        refine wm_iadd 1598 (by decide +kernel) rfl ?_
                                                                                        obtain ⟨o452, H⟩ := H
                                                                                        refine wm_sald 1599 (by decide +kernel) rfl o452 ?_
                                                                                        refine wm_callVi mX7_status 1 7 [_] [] _ _ 1602 mo_X7_status np_X7_status ml_RL_181 im_X7_status se_X7_status (by decide +kernel) (by decide +kernel) rfl rfl rfl (Nat.le_of_ble_eq_true rfl) (by decide +kernel) rfl (Nat.le_of_ble_eq_true rfl) _ (ent_pad 2 rfl) (l_X7_status g _ _ _ H) (fun v454 h453 H hzv454 => ?_)
                                                                                        refine wm_aload_n 2 1603 (by decide +kernel) rfl rfl ?_
                                                                                        refine wm_aload_n 0 1604 (by decide +kernel) rfl rfl ?_
                                                                                        refine wm_iload_n 3 1605 (by decide +kernel) rfl rfl ?_
                                                                                        refine wm_iconst 1 1606 (by decide +kernel : decode cL_law 1605 = .ok (.iconst 1, 1)) rfl (by decide +kernel) ?_
                                                                                        refine wm_iadd 1607 (by decide +kernel) rfl ?_
                                                                                        obtain ⟨o455, H⟩ := H
                                                                                        refine wm_sald 1608 (by decide +kernel) rfl o455 ?_
                                                                                        refine wm_callVi mX8_status 1 8 [_] [_] _ _ 1611 mo_X8_status np_X8_status ml_RL_184 im_X8_status se_X8_status (by decide +kernel) (by decide +kernel) rfl rfl rfl (Nat.le_of_ble_eq_true rfl) (by decide +kernel) rfl (Nat.le_of_ble_eq_true rfl) _ (ent_pad 0 rfl) (l_X8_status g _ _ _ H) (fun v457 h456 H hzv457 => ?_)
                                                                                        refine wm_icmp_eq 1614 1616 (by decide +kernel : decode cL_law 1611 = .ok (.if_icmp .eq 5, 3)) (by decide) rfl (fun c458 => ?_) (fun c458 => ?_)
                                                                                        · replace H := H.1 c458
                                                                                          replace H := H _ rfl
                                                                                          refine wm_iinc 3 (_ + 6) 1619 [some _, some _, some _, some _] (by decide +kernel : decode cL_law 1616 = .ok (.iinc 3 6, 3)) rfl (by decide +kernel) rfl (ofI_eq (by decide +kernel)) (okS_spec rfl) rfl ?_
                                                                                          refine wm_goto 18 (by decide +kernel : decode cL_law 1619 = .ok (.goto (-1601), 3)) (by decide) ?_
                                                                                          exact ih _ _ H
                                                                                        · replace H := H.2 c458
                                                                                          refine wm_iconst 0 1615 (by decide +kernel : decode cL_law 1614 = .ok (.iconst 0, 1)) rfl (by decide +kernel) ?_
                                                                                          exact wm_iret (by decide +kernel) ⟨.boolean, rfl, (by decide +kernel)⟩ H
                                                                                      · skip
                                                                                        refine wm_tout 1616 (by decide +kernel : decode cL_law 33 = .ok (.tableswitch 1583 0 40 #[179, 212, 275, 308, 341, 384, 427, 460, 493, 526, 549, 572, 605, 638, 661, 704, 747, 780, 813, 856, 889, 932, 955, 998, 1031, 1074, 1117, 1150, 1163, 1176, 1219, 1293, 1356, 1379, 1412, 1455, 1498, 1511, 1524, 1537, 1560], 179)) (by have q0 := ne_toInt 0 (by decide +kernel) c3; have q1 := ne_toInt 1 (by decide +kernel) c14; have q2 := ne_toInt 2 (by decide +kernel) c31; have q3 := ne_toInt 3 (by decide +kernel) c42; have q4 := ne_toInt 4 (by decide +kernel) c53; have q5 := ne_toInt 5 (by decide +kernel) c66; have q6 := ne_toInt 6 (by decide +kernel) c79; have q7 := ne_toInt 7 (by decide +kernel) c90; have q8 := ne_toInt 8 (by decide +kernel) c101; have q9 := ne_toInt 9 (by decide +kernel) c112; have q10 := ne_toInt 10 (by decide +kernel) c121; have q11 := ne_toInt 11 (by decide +kernel) c130; have q12 := ne_toInt 12 (by decide +kernel) c141; have q13 := ne_toInt 13 (by decide +kernel) c152; have q14 := ne_toInt 14 (by decide +kernel) c161; have q15 := ne_toInt 15 (by decide +kernel) c174; have q16 := ne_toInt 16 (by decide +kernel) c187; have q17 := ne_toInt 17 (by decide +kernel) c198; have q18 := ne_toInt 18 (by decide +kernel) c209; have q19 := ne_toInt 19 (by decide +kernel) c222; have q20 := ne_toInt 20 (by decide +kernel) c233; have q21 := ne_toInt 21 (by decide +kernel) c246; have q22 := ne_toInt 22 (by decide +kernel) c255; have q23 := ne_toInt 23 (by decide +kernel) c268; have q24 := ne_toInt 24 (by decide +kernel) c279; have q25 := ne_toInt 25 (by decide +kernel) c292; have q26 := ne_toInt 26 (by decide +kernel) c305; have q27 := ne_toInt 27 (by decide +kernel) c316; have q28 := ne_toInt 28 (by decide +kernel) c323; have q29 := ne_toInt 29 (by decide +kernel) c330; have q30 := ne_toInt 30 (by decide +kernel) c343; have q31 := ne_toInt 31 (by decide +kernel) c358; have q32 := ne_toInt 32 (by decide +kernel) c375; have q33 := ne_toInt 33 (by decide +kernel) c384; have q34 := ne_toInt 34 (by decide +kernel) c395; have q35 := ne_toInt 35 (by decide +kernel) c408; have q36 := ne_toInt 36 (by decide +kernel) c421; have q37 := ne_toInt 37 (by decide +kernel) c428; have q38 := ne_toInt 38 (by decide +kernel) c435; have q39 := ne_toInt 39 (by decide +kernel) c442; have q40 := ne_toInt 40 (by decide +kernel) c451; omega) (by decide) ?_
                                                                                        replace H := H _ rfl
                                                                                        refine wm_iinc 3 (_ + 6) 1619 [some _, some _, some _, some _] (by decide +kernel : decode cL_law 1616 = .ok (.iinc 3 6, 3)) rfl (by decide +kernel) rfl (ofI_eq (by decide +kernel)) (okS_spec rfl) rfl ?_
                                                                                        refine wm_goto 18 (by decide +kernel : decode cL_law 1619 = .ok (.goto (-1601), 3)) (by decide) ?_
                                                                                        exact ih _ _ H
set_option maxRecDepth 100000 in
set_option maxHeartbeats 4000000 in
theorem l_L_law (g : GE) (h : HP) (Q : Int32 → HP → Prop) (H : f_L_law (gX g).1 (gX g).2 h Q) : Wm g mL_law 16 [some (.ref 5000), some (.ref 0), some (.ref 117), none] [] h (qi Q) := by
  unfold f_L_law at H
  refine wm_iconst 0 17 (by decide +kernel : decode cL_law 16 = .ok (.iconst 0, 1)) rfl (by decide +kernel) ?_
  refine wm_istore_n 3 18 [some _, some _, some _, some _] (by decide +kernel) rfl (by decide +kernel) (okS_spec rfl) rfl ?_
  obtain ⟨n461, H⟩ := H
  refine l_L_law_L18 g _  _ _ _ H
