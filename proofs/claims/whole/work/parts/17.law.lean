def fL_law_L23 (st : DSt) (xs : Nat → Int32) (L : Nat) (q2 : DSt) (q4 : DSt) (z6 : DSt × Int32) (K9 : (DSt × Int32) → Prop) : Prop :=
  if ((Int32.ofNat L) - 4) < z6.2 then
    ((1 : Int32) = 1)
  else
    pB (sldO xs L z6.2) fun v7 =>
    if (v7 &&& 31) = 0 then
      pB (sldO xs L (z6.2 + 1)) fun v30 =>
      pB (oR z6.1 (some st.1) 4) fun b31 =>
      ∃ r32, fX4_bowl z6.1 b31 v30 = some r32 ∧ wrOK cd0 (some q4.1) (r32) ∧ ∀ (k33 : Int32) (u34 : DSt), wrF cd0 (some q4.1) (r32) (some (DI k33)) u34 → (∀ q e, u34.2 q = some e → q < u34.1) →
      pB (sldO xs L (z6.2 + 1)) fun v35 =>
      pB (oR u34 (some q2.1) 5) fun b36 =>
      pB (fX5_bowl u34 b36 v35) fun q37 =>
      pB (oR q37.2 (some q2.1) 5) fun b38 =>
      pB (fX5_thrown q37.2 b38) fun q39 =>
      if q39 = k33 then
        if k33 = 0 then
          pB (aL q37.2 (some q4.1) 5 0) fun v40 =>
          if (lg_cmp v40 ((q37.1).toInt64)) = 0 then
            K9 (q37.2, (z6.2 + 4))
          else
            ((0 : Int32) = 1)
        else
          K9 (q37.2, (z6.2 + 4))
      else
        ((0 : Int32) = 1)
    else
    if (v7 &&& 31) = 1 then
      pB (sldO xs L (z6.2 + 1)) fun v44 =>
      pB (sldO xs L (z6.2 + 2)) fun v45 =>
      pB (sldO xs L (z6.2 + 3)) fun v46 =>
      pB (oR z6.1 (some st.1) 4) fun b47 =>
      ∃ r48, fX4_warm z6.1 b47 v44 v45 v46 = some r48 ∧ wrOK cd1 (some q4.1) (r48) ∧ ∀ (k49 : Int32) (u50 : DSt), wrF cd1 (some q4.1) (r48) (some (DI k49)) u50 → (∀ q e, u50.2 q = some e → q < u50.1) →
      pB (sldO xs L (z6.2 + 1)) fun v51 =>
      pB (sldO xs L (z6.2 + 2)) fun v52 =>
      pB (sldO xs L (z6.2 + 3)) fun v53 =>
      pB (oR u50 (some q2.1) 5) fun b54 =>
      pB (fX5_warm u50 b54 v51 v52 v53) fun q55 =>
      pB (oR q55.2 (some q2.1) 5) fun b56 =>
      pB (fX5_thrown q55.2 b56) fun q57 =>
      if q57 = k49 then
        if k49 = 0 then
          pB (aL q55.2 (some q4.1) 5 0) fun v58 =>
          if (lg_cmp v58 ((q55.1).toInt64)) = 0 then
            K9 (q55.2, (z6.2 + 4))
          else
            ((0 : Int32) = 1)
        else
          K9 (q55.2, (z6.2 + 4))
      else
        ((0 : Int32) = 1)
    else
    if (v7 &&& 31) = 2 then
      pB (sldO xs L (z6.2 + 1)) fun v62 =>
      pB (sldO xs L (z6.2 + 2)) fun v63 =>
      pB (oR z6.1 (some st.1) 4) fun b64 =>
      ∃ r65, fX4_seed z6.1 b64 v62 v63 = some r65 ∧ wrOK cd1 (some q4.1) (r65) ∧ ∀ (k66 : Int32) (u67 : DSt), wrF cd1 (some q4.1) (r65) (some (DI k66)) u67 → (∀ q e, u67.2 q = some e → q < u67.1) →
      pB (sldO xs L (z6.2 + 1)) fun v68 =>
      pB (sldO xs L (z6.2 + 2)) fun v69 =>
      pB (oR u67 (some q2.1) 5) fun b70 =>
      pB (fX5_seed u67 b70 v68 v69) fun q71 =>
      pB (oR q71.2 (some q2.1) 5) fun b72 =>
      pB (fX5_thrown q71.2 b72) fun q73 =>
      if q73 = k66 then
        if k66 = 0 then
          pB (aL q71.2 (some q4.1) 5 0) fun v74 =>
          if (lg_cmp v74 ((q71.1).toInt64)) = 0 then
            K9 (q71.2, (z6.2 + 4))
          else
            ((0 : Int32) = 1)
        else
          K9 (q71.2, (z6.2 + 4))
      else
        ((0 : Int32) = 1)
    else
    if (v7 &&& 31) = 3 then
      pB (sldO xs L (z6.2 + 1)) fun v78 =>
      pB (sldO xs L (z6.2 + 2)) fun v79 =>
      pB (oR z6.1 (some st.1) 4) fun b80 =>
      ∃ r81, fX4_pour z6.1 b80 v78 v79 = some r81 ∧ wrOK cd1 (some q4.1) (r81) ∧ ∀ (k82 : Int32) (u83 : DSt), wrF cd1 (some q4.1) (r81) (some (DI k82)) u83 → (∀ q e, u83.2 q = some e → q < u83.1) →
      pB (sldO xs L (z6.2 + 1)) fun v84 =>
      pB (sldO xs L (z6.2 + 2)) fun v85 =>
      pB (oR u83 (some q2.1) 5) fun b86 =>
      pB (fX5_pour u83 b86 v84 v85) fun q87 =>
      pB (oR q87.2 (some q2.1) 5) fun b88 =>
      pB (fX5_thrown q87.2 b88) fun q89 =>
      if q89 = k82 then
        if k82 = 0 then
          pB (aL q87.2 (some q4.1) 5 0) fun v90 =>
          if (lg_cmp v90 ((q87.1).toInt64)) = 0 then
            K9 (q87.2, (z6.2 + 4))
          else
            ((0 : Int32) = 1)
        else
          K9 (q87.2, (z6.2 + 4))
      else
        ((0 : Int32) = 1)
    else
    if (v7 &&& 31) = 4 then
      pB (sldO xs L (z6.2 + 1)) fun v94 =>
      pB (sldO xs L (z6.2 + 2)) fun v95 =>
      pB (sldO xs L (z6.2 + 3)) fun v96 =>
      pB (oR z6.1 (some st.1) 4) fun b97 =>
      ∃ r98, fX4_cast z6.1 b97 v94 v95 v96 = some r98 ∧ wrOK cd2 (some q4.1) (r98) ∧ ∀ (k99 : Int32) (u100 : DSt), wrF cd2 (some q4.1) (r98) (some (DI k99)) u100 → (∀ q e, u100.2 q = some e → q < u100.1) →
      pB (sldO xs L (z6.2 + 1)) fun v101 =>
      pB (sldO xs L (z6.2 + 2)) fun v102 =>
      pB (sldO xs L (z6.2 + 3)) fun v103 =>
      pB (oR u100 (some q2.1) 5) fun b104 =>
      pB (fX5_cast u100 b104 v101 v102 v103) fun q105 =>
      pB (oR q105.2 (some q2.1) 5) fun b106 =>
      pB (fX5_thrown q105.2 b106) fun q107 =>
      if q107 = k99 then
        if k99 = 0 then
          pB (aL q105.2 (some q4.1) 5 0) fun v108 =>
          if (lg_cmp v108 ((q105.1).toInt64)) = 0 then
            K9 (q105.2, (z6.2 + 4))
          else
            ((0 : Int32) = 1)
        else
          K9 (q105.2, (z6.2 + 4))
      else
        ((0 : Int32) = 1)
    else
    if (v7 &&& 31) = 5 then
      pB (sldO xs L (z6.2 + 1)) fun v112 =>
      pB (oR z6.1 (some st.1) 4) fun b113 =>
      ∃ r114, fX4_polish z6.1 b113 v112 = some r114 ∧ wrOK cd3 (some q4.1) (r114) ∧ ∀ (k115 : Int32) (u116 : DSt), wrF cd3 (some q4.1) (r114) (some (DI k115)) u116 → (∀ q e, u116.2 q = some e → q < u116.1) →
      pB (sldO xs L (z6.2 + 1)) fun v117 =>
      pB (oR u116 (some q2.1) 5) fun b118 =>
      pB (fX5_polish u116 b118 v117) fun q119 =>
      pB (oR q119.2 (some q2.1) 5) fun b120 =>
      pB (fX5_thrown q119.2 b120) fun q121 =>
      if q121 = k115 then
        if k115 = 0 then
          pB (aL q119.2 (some q4.1) 5 0) fun v122 =>
          if (lg_cmp v122 ((q119.1).toInt64)) = 0 then
            K9 (q119.2, (z6.2 + 4))
          else
            ((0 : Int32) = 1)
        else
          K9 (q119.2, (z6.2 + 4))
      else
        ((0 : Int32) = 1)
    else
    if (v7 &&& 31) = 6 then
      pB (sldO xs L (z6.2 + 1)) fun v126 =>
      pB (sldO xs L (z6.2 + 2)) fun v127 =>
      pB (sldO xs L (z6.2 + 3)) fun v128 =>
      if v128 = 0 then
        pB (oR z6.1 (some st.1) 4) fun b129 =>
        ∃ r130, fX4_split z6.1 b129 v126 v127 0 = some r130 ∧ wrOK cd4 (some q4.1) (r130) ∧ ∀ (k131 : Int32) (u132 : DSt), wrF cd4 (some q4.1) (r130) (some (DI k131)) u132 → (∀ q e, u132.2 q = some e → q < u132.1) →
        pB (sldO xs L (z6.2 + 1)) fun v133 =>
        pB (sldO xs L (z6.2 + 2)) fun v134 =>
        pB (sldO xs L (z6.2 + 3)) fun v135 =>
        if v135 = 0 then
          pB (oR u132 (some q2.1) 5) fun b136 =>
          pB (fX5_split u132 b136 v133 v134 0) fun q137 =>
          pB (oR q137.2 (some q2.1) 5) fun b138 =>
          pB (fX5_thrown q137.2 b138) fun q139 =>
          if q139 = k131 then
            if k131 = 0 then
              pB (aL q137.2 (some q4.1) 5 0) fun v140 =>
              if (lg_cmp v140 ((q137.1).toInt64)) = 0 then
                K9 (q137.2, (z6.2 + 4))
              else
                ((0 : Int32) = 1)
            else
              K9 (q137.2, (z6.2 + 4))
          else
            ((0 : Int32) = 1)
        else
          pB (oR u132 (some q2.1) 5) fun b144 =>
          pB (fX5_split u132 b144 v133 v134 1) fun q145 =>
          pB (oR q145.2 (some q2.1) 5) fun b146 =>
          pB (fX5_thrown q145.2 b146) fun q147 =>
          if q147 = k131 then
            if k131 = 0 then
              pB (aL q145.2 (some q4.1) 5 0) fun v148 =>
              if (lg_cmp v148 ((q145.1).toInt64)) = 0 then
                K9 (q145.2, (z6.2 + 4))
              else
                ((0 : Int32) = 1)
            else
              K9 (q145.2, (z6.2 + 4))
          else
            ((0 : Int32) = 1)
      else
        pB (oR z6.1 (some st.1) 4) fun b153 =>
        ∃ r154, fX4_split z6.1 b153 v126 v127 1 = some r154 ∧ wrOK cd4 (some q4.1) (r154) ∧ ∀ (k155 : Int32) (u156 : DSt), wrF cd4 (some q4.1) (r154) (some (DI k155)) u156 → (∀ q e, u156.2 q = some e → q < u156.1) →
        pB (sldO xs L (z6.2 + 1)) fun v157 =>
        pB (sldO xs L (z6.2 + 2)) fun v158 =>
        pB (sldO xs L (z6.2 + 3)) fun v159 =>
        if v159 = 0 then
          pB (oR u156 (some q2.1) 5) fun b160 =>
          pB (fX5_split u156 b160 v157 v158 0) fun q161 =>
          pB (oR q161.2 (some q2.1) 5) fun b162 =>
          pB (fX5_thrown q161.2 b162) fun q163 =>
          if q163 = k155 then
            if k155 = 0 then
              pB (aL q161.2 (some q4.1) 5 0) fun v164 =>
              if (lg_cmp v164 ((q161.1).toInt64)) = 0 then
                K9 (q161.2, (z6.2 + 4))
              else
                ((0 : Int32) = 1)
            else
              K9 (q161.2, (z6.2 + 4))
          else
            ((0 : Int32) = 1)
        else
          pB (oR u156 (some q2.1) 5) fun b168 =>
          pB (fX5_split u156 b168 v157 v158 1) fun q169 =>
          pB (oR q169.2 (some q2.1) 5) fun b170 =>
          pB (fX5_thrown q169.2 b170) fun q171 =>
          if q171 = k155 then
            if k155 = 0 then
              pB (aL q169.2 (some q4.1) 5 0) fun v172 =>
              if (lg_cmp v172 ((q169.1).toInt64)) = 0 then
                K9 (q169.2, (z6.2 + 4))
              else
                ((0 : Int32) = 1)
            else
              K9 (q169.2, (z6.2 + 4))
          else
            ((0 : Int32) = 1)
    else
    if (v7 &&& 31) = 7 then
      pB (sldO xs L (z6.2 + 1)) fun v178 =>
      pB (sldO xs L (z6.2 + 2)) fun v179 =>
      pB (oR z6.1 (some st.1) 4) fun b180 =>
      ∃ r181, fX4_melt z6.1 b180 v178 v179 = some r181 ∧ wrOK cd1 (some q4.1) (r181) ∧ ∀ (k182 : Int32) (u183 : DSt), wrF cd1 (some q4.1) (r181) (some (DI k182)) u183 → (∀ q e, u183.2 q = some e → q < u183.1) →
      pB (sldO xs L (z6.2 + 1)) fun v184 =>
      pB (sldO xs L (z6.2 + 2)) fun v185 =>
      pB (oR u183 (some q2.1) 5) fun b186 =>
      pB (fX5_melt u183 b186 v184 v185) fun q187 =>
      pB (oR q187.2 (some q2.1) 5) fun b188 =>
      pB (fX5_thrown q187.2 b188) fun q189 =>
      if q189 = k182 then
        if k182 = 0 then
          pB (aL q187.2 (some q4.1) 5 0) fun v190 =>
          if (lg_cmp v190 ((q187.1).toInt64)) = 0 then
            K9 (q187.2, (z6.2 + 4))
          else
            ((0 : Int32) = 1)
        else
          K9 (q187.2, (z6.2 + 4))
      else
        ((0 : Int32) = 1)
    else
    if (v7 &&& 31) = 8 then
      pB (sldO xs L (z6.2 + 1)) fun v194 =>
      pB (sldO xs L (z6.2 + 2)) fun v195 =>
      pB (oR z6.1 (some st.1) 4) fun b196 =>
      ∃ r197, fX4_box z6.1 b196 v194 v195 = some r197 ∧ wrOK cd0 (some q4.1) (r197) ∧ ∀ (k198 : Int32) (u199 : DSt), wrF cd0 (some q4.1) (r197) (some (DI k198)) u199 → (∀ q e, u199.2 q = some e → q < u199.1) →
      pB (sldO xs L (z6.2 + 1)) fun v200 =>
      pB (sldO xs L (z6.2 + 2)) fun v201 =>
      pB (oR u199 (some q2.1) 5) fun b202 =>
      pB (fX5_box u199 b202 v200 v201) fun q203 =>
      pB (oR q203.2 (some q2.1) 5) fun b204 =>
      pB (fX5_thrown q203.2 b204) fun q205 =>
      if q205 = k198 then
        if k198 = 0 then
          pB (aL q203.2 (some q4.1) 5 0) fun v206 =>
          if (lg_cmp v206 ((q203.1).toInt64)) = 0 then
            K9 (q203.2, (z6.2 + 4))
          else
            ((0 : Int32) = 1)
        else
          K9 (q203.2, (z6.2 + 4))
      else
        ((0 : Int32) = 1)
    else
    if (v7 &&& 31) = 9 then
      pB (oR z6.1 (some st.1) 4) fun b210 =>
      pB (fX4_fill z6.1 b210) fun q211 =>
      pB (oR q211.2 (some q2.1) 5) fun b212 =>
      pB (fX5_fill q211.2 b212) fun q213 =>
      if q211.1 = q213.1 then
        K9 (q213.2, (z6.2 + 4))
      else
        ((0 : Int32) = 1)
    else
    if (v7 &&& 31) = 10 then
      pB (sldO xs L (z6.2 + 1)) fun v215 =>
      pB (sldO xs L (z6.2 + 2)) fun v216 =>
      pB (oR z6.1 (some st.1) 4) fun b217 =>
      ∃ r218, fX4_pass z6.1 b217 v215 v216 = some r218 ∧ wrOK cd5 (some q4.1) (r218) ∧ ∀ (k219 : Int32) (u220 : DSt), wrF cd5 (some q4.1) (r218) (some (DI k219)) u220 → (∀ q e, u220.2 q = some e → q < u220.1) →
      pB (sldO xs L (z6.2 + 1)) fun v221 =>
      pB (sldO xs L (z6.2 + 2)) fun v222 =>
      pB (oR u220 (some q2.1) 5) fun b223 =>
      pB (fX5_pass u220 b223 v221 v222) fun q224 =>
      pB (oR q224.2 (some q2.1) 5) fun b225 =>
      pB (fX5_thrown q224.2 b225) fun q226 =>
      if q226 = k219 then
        if k219 = 0 then
          pB (aL q224.2 (some q4.1) 5 0) fun v227 =>
          if (lg_cmp v227 ((q224.1).toInt64)) = 0 then
            K9 (q224.2, (z6.2 + 4))
          else
            ((0 : Int32) = 1)
        else
          K9 (q224.2, (z6.2 + 4))
      else
        ((0 : Int32) = 1)
    else
    if (v7 &&& 31) = 11 then
      pB (sldO xs L (z6.2 + 1)) fun v231 =>
      pB (sldO xs L (z6.2 + 2)) fun v232 =>
      pB (oR z6.1 (some st.1) 4) fun b233 =>
      ∃ r234, fX4_told z6.1 b233 v231 v232 = some r234 ∧ wrOK cd3 (some q4.1) (wrP z6.1 r234) ∧ ∀ (k235 : Int32) (u236 : DSt), wrF cd3 (some q4.1) (wrP z6.1 r234) (some (DI k235)) u236 → (∀ q e, u236.2 q = some e → q < u236.1) →
      pB (sldO xs L (z6.2 + 1)) fun v237 =>
      pB (sldO xs L (z6.2 + 2)) fun v238 =>
      pB (oR u236 (some q2.1) 5) fun b239 =>
      pB (fX5_told u236 b239 v237 v238) fun q240 =>
      pB (oR q240.2 (some q2.1) 5) fun b241 =>
      pB (fX5_thrown q240.2 b241) fun q242 =>
      if q242 = k235 then
        if k235 = 0 then
          pB (aL q240.2 (some q4.1) 5 0) fun v243 =>
          if (lg_cmp v243 ((q240.1).toInt64)) = 0 then
            K9 (q240.2, (z6.2 + 4))
          else
            ((0 : Int32) = 1)
        else
          K9 (q240.2, (z6.2 + 4))
      else
        ((0 : Int32) = 1)
    else
    if (v7 &&& 31) = 12 then
      pB (sldO xs L (z6.2 + 1)) fun v247 =>
      pB (sldO xs L (z6.2 + 2)) fun v248 =>
      pB (oR z6.1 (some st.1) 4) fun b249 =>
      ∃ r250, fX4_about z6.1 b249 v247 v248 = some r250 ∧ wrOK cd3 (some q4.1) (wrP z6.1 r250) ∧ ∀ (k251 : Int32) (u252 : DSt), wrF cd3 (some q4.1) (wrP z6.1 r250) (some (DI k251)) u252 → (∀ q e, u252.2 q = some e → q < u252.1) →
      pB (sldO xs L (z6.2 + 1)) fun v253 =>
      pB (sldO xs L (z6.2 + 2)) fun v254 =>
      pB (oR u252 (some q2.1) 5) fun b255 =>
      pB (fX5_about u252 b255 v253 v254) fun q256 =>
      pB (oR q256.2 (some q2.1) 5) fun b257 =>
      pB (fX5_thrown q256.2 b257) fun q258 =>
      if q258 = k251 then
        if k251 = 0 then
          pB (aL q256.2 (some q4.1) 5 0) fun v259 =>
          if (lg_cmp v259 ((q256.1).toInt64)) = 0 then
            K9 (q256.2, (z6.2 + 4))
          else
            ((0 : Int32) = 1)
        else
          K9 (q256.2, (z6.2 + 4))
      else
        ((0 : Int32) = 1)
    else
    if (v7 &&& 31) = 13 then
      pB (sldO xs L (z6.2 + 1)) fun v263 =>
      pB (sldO xs L (z6.2 + 2)) fun v264 =>
      pB (oR z6.1 (some st.1) 4) fun b265 =>
      ∃ r266, fX4_order z6.1 b265 v263 v264 = some r266 ∧ wrOK cd3 (some q4.1) (wrP z6.1 r266) ∧ ∀ (k267 : Int32) (u268 : DSt), wrF cd3 (some q4.1) (wrP z6.1 r266) (some (DI k267)) u268 → (∀ q e, u268.2 q = some e → q < u268.1) →
      pB (sldO xs L (z6.2 + 1)) fun v269 =>
      pB (sldO xs L (z6.2 + 2)) fun v270 =>
      pB (oR u268 (some q2.1) 5) fun b271 =>
      pB (fX5_order u268 b271 v269 v270) fun q272 =>
      pB (oR q272.2 (some q2.1) 5) fun b273 =>
      pB (fX5_thrown q272.2 b273) fun q274 =>
      if q274 = k267 then
        if k267 = 0 then
          pB (aL q272.2 (some q4.1) 5 0) fun v275 =>
          if (lg_cmp v275 ((q272.1).toInt64)) = 0 then
            K9 (q272.2, (z6.2 + 4))
          else
            ((0 : Int32) = 1)
        else
          K9 (q272.2, (z6.2 + 4))
      else
        ((0 : Int32) = 1)
    else
    if (v7 &&& 31) = 14 then
      pB (sldO xs L (z6.2 + 1)) fun v279 =>
      pB (oR z6.1 (some st.1) 4) fun b280 =>
      ∃ r281, fX4_count z6.1 b280 v279 = some r281 ∧ wrOK cd3 (some q4.1) (wrP z6.1 r281) ∧ ∀ (k282 : Int32) (u283 : DSt), wrF cd3 (some q4.1) (wrP z6.1 r281) (some (DI k282)) u283 → (∀ q e, u283.2 q = some e → q < u283.1) →
      pB (sldO xs L (z6.2 + 1)) fun v284 =>
      pB (oR u283 (some q2.1) 5) fun b285 =>
      pB (fX5_count u283 b285 v284) fun q286 =>
      pB (oR q286.2 (some q2.1) 5) fun b287 =>
      pB (fX5_thrown q286.2 b287) fun q288 =>
      if q288 = k282 then
        if k282 = 0 then
          pB (aL q286.2 (some q4.1) 5 0) fun v289 =>
          if (lg_cmp v289 ((q286.1).toInt64)) = 0 then
            K9 (q286.2, (z6.2 + 4))
          else
            ((0 : Int32) = 1)
        else
          K9 (q286.2, (z6.2 + 4))
      else
        ((0 : Int32) = 1)
    else
    if (v7 &&& 31) = 15 then
      pB (sldO xs L (z6.2 + 1)) fun v293 =>
      pB (sldO xs L (z6.2 + 2)) fun v294 =>
      pB (sldO xs L (z6.2 + 3)) fun v295 =>
      pB (oR z6.1 (some st.1) 4) fun b296 =>
      ∃ r297, fX4_would z6.1 b296 v293 v294 v295 = some r297 ∧ wrOK cd1 (some q4.1) (r297) ∧ ∀ (k298 : Int32) (u299 : DSt), wrF cd1 (some q4.1) (r297) (some (DI k298)) u299 → (∀ q e, u299.2 q = some e → q < u299.1) →
      pB (sldO xs L (z6.2 + 1)) fun v300 =>
      pB (sldO xs L (z6.2 + 2)) fun v301 =>
      pB (sldO xs L (z6.2 + 3)) fun v302 =>
      pB (oR u299 (some q2.1) 5) fun b303 =>
      pB (fX5_would u299 b303 v300 v301 v302) fun q304 =>
      pB (oR q304.2 (some q2.1) 5) fun b305 =>
      pB (fX5_thrown q304.2 b305) fun q306 =>
      if q306 = k298 then
        if k298 = 0 then
          pB (aL q304.2 (some q4.1) 5 0) fun v307 =>
          if (lg_cmp v307 ((q304.1).toInt64)) = 0 then
            K9 (q304.2, (z6.2 + 4))
          else
            ((0 : Int32) = 1)
        else
          K9 (q304.2, (z6.2 + 4))
      else
        ((0 : Int32) = 1)
    else
    if (v7 &&& 31) = 16 then
      pB (sldO xs L (z6.2 + 1)) fun v311 =>
      pB (sldO xs L (z6.2 + 2)) fun v312 =>
      pB (sldO xs L (z6.2 + 3)) fun v313 =>
      pB (oR z6.1 (some st.1) 4) fun b314 =>
      ∃ r315, fX4_best z6.1 b314 v311 v312 v313 = some r315 ∧ wrOK cd1 (some q4.1) (r315) ∧ ∀ (k316 : Int32) (u317 : DSt), wrF cd1 (some q4.1) (r315) (some (DI k316)) u317 → (∀ q e, u317.2 q = some e → q < u317.1) →
      pB (sldO xs L (z6.2 + 1)) fun v318 =>
      pB (sldO xs L (z6.2 + 2)) fun v319 =>
      pB (sldO xs L (z6.2 + 3)) fun v320 =>
      pB (oR u317 (some q2.1) 5) fun b321 =>
      pB (fX5_best u317 b321 v318 v319 v320) fun q322 =>
      pB (oR q322.2 (some q2.1) 5) fun b323 =>
      pB (fX5_thrown q322.2 b323) fun q324 =>
      if q324 = k316 then
        if k316 = 0 then
          pB (aL q322.2 (some q4.1) 5 0) fun v325 =>
          if (lg_cmp v325 ((q322.1).toInt64)) = 0 then
            K9 (q322.2, (z6.2 + 4))
          else
            ((0 : Int32) = 1)
        else
          K9 (q322.2, (z6.2 + 4))
      else
        ((0 : Int32) = 1)
    else
    if (v7 &&& 31) = 17 then
      pB (sldO xs L (z6.2 + 1)) fun v329 =>
      pB (sldO xs L (z6.2 + 2)) fun v330 =>
      pB (oR z6.1 (some st.1) 4) fun b331 =>
      ∃ r332, fX4_until z6.1 b331 v329 v330 = some r332 ∧ wrOK cd1 (some q4.1) (wrP z6.1 r332) ∧ ∀ (k333 : Int32) (u334 : DSt), wrF cd1 (some q4.1) (wrP z6.1 r332) (some (DI k333)) u334 → (∀ q e, u334.2 q = some e → q < u334.1) →
      pB (sldO xs L (z6.2 + 1)) fun v335 =>
      pB (sldO xs L (z6.2 + 2)) fun v336 =>
      pB (oR u334 (some q2.1) 5) fun b337 =>
      pB (fX5_until u334 b337 v335 v336) fun q338 =>
      pB (oR q338.2 (some q2.1) 5) fun b339 =>
      pB (fX5_thrown q338.2 b339) fun q340 =>
      if q340 = k333 then
        if k333 = 0 then
          pB (aL q338.2 (some q4.1) 5 0) fun v341 =>
          if (lg_cmp v341 ((q338.1).toInt64)) = 0 then
            K9 (q338.2, (z6.2 + 4))
          else
            ((0 : Int32) = 1)
        else
          K9 (q338.2, (z6.2 + 4))
      else
        ((0 : Int32) = 1)
    else
    if (v7 &&& 31) = 18 then
      pB (oR z6.1 (some st.1) 4) fun b345 =>
      pB (fX4_advise z6.1 b345) fun q346 =>
      pB (oR q346.2 (some q2.1) 5) fun b347 =>
      pB (fX5_advise q346.2 b347) fun q348 =>
      if q346.1 = q348.1 then
        K9 (q348.2, (z6.2 + 4))
      else
        ((0 : Int32) = 1)
    else
    if (v7 &&& 31) = 19 then
      pB (oR z6.1 (some st.1) 4) fun b350 =>
      pB (fX4_mean z6.1 b350) fun q351 =>
      pB (oR z6.1 (some q2.1) 5) fun b352 =>
      pB (fX5_mean z6.1 b352) fun q353 =>
      if (Op.cmpValue (FP.dcmp q351 q353.1) .l) = 0 then
        K9 (q353.2, (z6.2 + 4))
      else
        if (Op.cmpValue (FP.dcmp q351 q351) .l) = 0 then
          ((0 : Int32) = 1)
        else
          if (Op.cmpValue (FP.dcmp q353.1 q353.1) .l) = 0 then
            ((0 : Int32) = 1)
          else
            K9 (q353.2, (z6.2 + 4))
    else
    if (v7 &&& 31) = 20 then
      pB (oR z6.1 (some st.1) 4) fun b357 =>
      pB (fX4_digest z6.1 b357) fun q358 =>
      pB (oR z6.1 (some q2.1) 5) fun b359 =>
      pB (fX5_digest z6.1 b359) fun q360 =>
      if (lg_cmp q358 q360.1) = 0 then
        K9 (q360.2, (z6.2 + 4))
      else
        ((0 : Int32) = 1)
    else
    K9 (z6.1, (z6.2 + 4))
def fL_law (xs : Nat → Int32) (L : Nat) (st : DSt) : Prop :=
  pB (some (nC st (.inr (4, [DR none, DR none, DR none, DI 0, DI 0, DI 0, DI 0, DR none, DR none, DR none, DR none])))) fun s1 =>
  pB (fX4_init s1 st.1) fun q2 =>
  pB (some (nC q2 (.inr (5, [DI 0, DI 0, DI 0, DI 0, DI 0, DR none, DR none, DR none, DR none, DR none, DR none, DR none])))) fun s3 =>
  pB (fX5_init s3 q2.1) fun q4 =>
  pB (some (nC q4 (.inl (5, nL0 1)))) fun s5 =>
  pLoop (fL_law_L23 st xs L q2 q4) 520 (s5, 0)
