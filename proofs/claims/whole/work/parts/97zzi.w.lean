/-! WHAT EACH METHOD NEEDS: W: the condition; R: the small machine keeps it (printed by wgen.py) -/
/-- 330: FourPotsLaw law -/
def B330_212 (x3 : Int32) (h : TH) (C : Int32 → TH → Prop) (X18 : Int32 × TH → Prop) : Prop :=
  W151  h (fun v1 => W201  h (fun v2 => if v1 = v2 then (X18 ((x3 + 6), h)) else (C 0 h)))
def B330_225 (x3 : Int32) (h : TH) (C : Int32 → TH → Prop) (X18 : Int32 × TH → Prop) : Prop :=
  W152  h (fun v1 => W202  h (fun v2 => if (lg_cmp v1 v2) = 0 then (X18 ((x3 + 6), h)) else (C 0 h)))
def B330_239 (x3 : Int32) (h : TH) (C : Int32 → TH → Prop) (X18 : Int32 × TH → Prop) : Prop :=
  W153  h (fun v1 => W203  h (fun v2 => if (lg_cmp v1 v2) = 0 then (X18 ((x3 + 6), h)) else (C 0 h)))
def B330_253 (x3 : Int32) (h : TH) (C : Int32 → TH → Prop) (X18 : Int32 × TH → Prop) : Prop :=
  inb (x3 + 1) (h.N 1000000) ∧ inb (x3 + 2) (h.N 1000000) ∧ inb (x3 + 3) (h.N 1000000) ∧ W154 (h.I 1000000 (ix (x3 + 1))) (h.I 1000000 (ix (x3 + 2))) (h.I 1000000 (ix (x3 + 3))) h (fun v1 h2 => inb (x3 + 1) (h2.N 1000000) ∧ inb (x3 + 2) (h2.N 1000000) ∧ inb (x3 + 3) (h2.N 1000000) ∧ W210 (h2.I 1000000 (ix (x3 + 1))) (h2.I 1000000 (ix (x3 + 2))) (h2.I 1000000 (ix (x3 + 3))) h2 (fun v3 h4 => if v1 = v3 then (X18 ((x3 + 6), h4)) else (C 0 h4)))
def B330_296 (x3 : Int32) (h : TH) (C : Int32 → TH → Prop) (X18 : Int32 × TH → Prop) : Prop :=
  inb (x3 + 1) (h.N 1000000) ∧ inb (x3 + 2) (h.N 1000000) ∧ inb (x3 + 3) (h.N 1000000) ∧ inb (x3 + 4) (h.N 1000000) ∧ W155 (h.I 1000000 (ix (x3 + 1))) (h.I 1000000 (ix (x3 + 2))) ((lshl (((h.I 1000000 (ix (x3 + 3)))).toInt64) 32) ||| (((h.I 1000000 (ix (x3 + 4)))).toInt64 &&& 4294967295)) h (fun v1 h2 => inb (x3 + 1) (h2.N 1000000) ∧ inb (x3 + 2) (h2.N 1000000) ∧ inb (x3 + 3) (h2.N 1000000) ∧ inb (x3 + 4) (h2.N 1000000) ∧ W212 (h2.I 1000000 (ix (x3 + 1))) (h2.I 1000000 (ix (x3 + 2))) ((lshl (((h2.I 1000000 (ix (x3 + 3)))).toInt64) 32) ||| (((h2.I 1000000 (ix (x3 + 4)))).toInt64 &&& 4294967295)) h2 (fun v3 h4 => if v1 = v3 then (X18 ((x3 + 6), h4)) else (C 0 h4)))
def B330_369 (x3 : Int32) (h : TH) (C : Int32 → TH → Prop) (X18 : Int32 × TH → Prop) : Prop :=
  inb (x3 + 1) (h.N 1000000) ∧ inb (x3 + 2) (h.N 1000000) ∧ W156 (h.I 1000000 (ix (x3 + 1))) (h.I 1000000 (ix (x3 + 2))) h (fun v1 h2 => inb (x3 + 1) (h2.N 1000000) ∧ inb (x3 + 2) (h2.N 1000000) ∧ W213 (h2.I 1000000 (ix (x3 + 1))) (h2.I 1000000 (ix (x3 + 2))) h2 (fun v3 h4 => if (lg_cmp v1 v3) = 0 then (X18 ((x3 + 6), h4)) else (C 0 h4)))
def B330_403 (x3 : Int32) (h : TH) (C : Int32 → TH → Prop) (X18 : Int32 × TH → Prop) : Prop :=
  inb (x3 + 1) (h.N 1000000) ∧ inb (x3 + 2) (h.N 1000000) ∧ inb (x3 + 3) (h.N 1000000) ∧ inb (x3 + 4) (h.N 1000000) ∧ inb (x3 + 5) (h.N 1000000) ∧ W157 (h.I 1000000 (ix (x3 + 1))) (h.I 1000000 (ix (x3 + 2))) (h.I 1000000 (ix (x3 + 3))) (h.I 1000000 (ix (x3 + 4))) (h.I 1000000 (ix (x3 + 5))) h (fun v1 h2 => inb (x3 + 1) (h2.N 1000000) ∧ inb (x3 + 2) (h2.N 1000000) ∧ inb (x3 + 3) (h2.N 1000000) ∧ inb (x3 + 4) (h2.N 1000000) ∧ inb (x3 + 5) (h2.N 1000000) ∧ W214 (h2.I 1000000 (ix (x3 + 1))) (h2.I 1000000 (ix (x3 + 2))) (h2.I 1000000 (ix (x3 + 3))) (h2.I 1000000 (ix (x3 + 4))) (h2.I 1000000 (ix (x3 + 5))) h2 (fun v3 h4 => if v1 = v3 then (X18 ((x3 + 6), h4)) else (C 0 h4)))
def B330_466 (x3 : Int32) (h : TH) (C : Int32 → TH → Prop) (X18 : Int32 × TH → Prop) : Prop :=
  inb (x3 + 1) (h.N 1000000) ∧ inb (x3 + 2) (h.N 1000000) ∧ inb (x3 + 3) (h.N 1000000) ∧ inb (x3 + 4) (h.N 1000000) ∧ inb (x3 + 5) (h.N 1000000) ∧ W158 (h.I 1000000 (ix (x3 + 1))) (h.I 1000000 (ix (x3 + 2))) (h.I 1000000 (ix (x3 + 3))) (h.I 1000000 (ix (x3 + 4))) (h.I 1000000 (ix (x3 + 5))) h (fun v1 h2 => inb (x3 + 1) (h2.N 1000000) ∧ inb (x3 + 2) (h2.N 1000000) ∧ inb (x3 + 3) (h2.N 1000000) ∧ inb (x3 + 4) (h2.N 1000000) ∧ inb (x3 + 5) (h2.N 1000000) ∧ W216 (h2.I 1000000 (ix (x3 + 1))) (h2.I 1000000 (ix (x3 + 2))) (h2.I 1000000 (ix (x3 + 3))) (h2.I 1000000 (ix (x3 + 4))) (h2.I 1000000 (ix (x3 + 5))) h2 (fun v3 h4 => if v1 = v3 then (X18 ((x3 + 6), h4)) else (C 0 h4)))
def B330_529 (x3 : Int32) (h : TH) (C : Int32 → TH → Prop) (X18 : Int32 × TH → Prop) : Prop :=
  inb (x3 + 1) (h.N 1000000) ∧ W159 (h.I 1000000 (ix (x3 + 1))) h (fun v1 h2 => inb (x3 + 1) (h2.N 1000000) ∧ W242 (h2.I 1000000 (ix (x3 + 1))) h2 (fun v3 h4 => if v1 = v3 then (X18 ((x3 + 6), h4)) else (C 0 h4)))
def B330_552 (x3 : Int32) (h : TH) (C : Int32 → TH → Prop) (X18 : Int32 × TH → Prop) : Prop :=
  inb (x3 + 1) (h.N 1000000) ∧ W160 (h.I 1000000 (ix (x3 + 1))) h (fun v1 h2 => inb (x3 + 1) (h2.N 1000000) ∧ W246 (h2.I 1000000 (ix (x3 + 1))) h2 (fun v3 h4 => if v1 = v3 then (X18 ((x3 + 6), h4)) else (C 0 h4)))
def B330_575 (x3 : Int32) (h : TH) (C : Int32 → TH → Prop) (X18 : Int32 × TH → Prop) : Prop :=
  inb (x3 + 1) (h.N 1000000) ∧ W161 (h.I 1000000 (ix (x3 + 1))) h (fun v1 => inb (x3 + 1) (h.N 1000000) ∧ W232 (h.I 1000000 (ix (x3 + 1))) h (fun v2 => if v1 = v2 then (X18 ((x3 + 6), h)) else (C 0 h)))
def B330_598 (x3 : Int32) (h : TH) (C : Int32 → TH → Prop) (X18 : Int32 × TH → Prop) : Prop :=
  inb (x3 + 1) (h.N 1000000) ∧ W162 (h.I 1000000 (ix (x3 + 1))) h (fun v1 h2 => inb (x3 + 1) (h2.N 1000000) ∧ W258 (h2.I 1000000 (ix (x3 + 1))) h2 (fun v3 h4 => if v1 = v3 then (X18 ((x3 + 6), h4)) else (C 0 h4)))
def B330_621 (x3 : Int32) (h : TH) (C : Int32 → TH → Prop) (X18 : Int32 × TH → Prop) : Prop :=
  inb (x3 + 1) (h.N 1000000) ∧ inb (x3 + 2) (h.N 1000000) ∧ W163 (h.I 1000000 (ix (x3 + 1))) (h.I 1000000 (ix (x3 + 2))) h (fun v1 h2 => inb (x3 + 1) (h2.N 1000000) ∧ inb (x3 + 2) (h2.N 1000000) ∧ W259 (h2.I 1000000 (ix (x3 + 1))) (h2.I 1000000 (ix (x3 + 2))) h2 (fun v3 h4 => if v1 = v3 then (X18 ((x3 + 6), h4)) else (C 0 h4)))
def B330_654 (x3 : Int32) (h : TH) (C : Int32 → TH → Prop) (X18 : Int32 × TH → Prop) : Prop :=
  inb (x3 + 1) (h.N 1000000) ∧ W164 (h.I 1000000 (ix (x3 + 1))) h (fun v1 h2 => inb (x3 + 1) (h2.N 1000000) ∧ W260 (h2.I 1000000 (ix (x3 + 1))) h2 (fun v3 h4 => if v1 = v3 then (X18 ((x3 + 6), h4)) else (C 0 h4)))
def B330_677 (x3 : Int32) (h : TH) (C : Int32 → TH → Prop) (X18 : Int32 × TH → Prop) : Prop :=
  inb (x3 + 1) (h.N 1000000) ∧ W165 (h.I 1000000 (ix (x3 + 1))) h (fun v1 h2 => inb (x3 + 1) (h2.N 1000000) ∧ W264 (h2.I 1000000 (ix (x3 + 1))) h2 (fun v3 h4 => if v1 = v3 then (X18 ((x3 + 6), h4)) else (C 0 h4)))
def B330_700 (x3 : Int32) (h : TH) (C : Int32 → TH → Prop) (X18 : Int32 × TH → Prop) : Prop :=
  inb (x3 + 1) (h.N 1000000) ∧ W166 (h.I 1000000 (ix (x3 + 1))) h (fun v1 h2 => inb (x3 + 1) (h2.N 1000000) ∧ W266 (h2.I 1000000 (ix (x3 + 1))) h2 (fun v3 h4 => if v1 = v3 then (X18 ((x3 + 6), h4)) else (C 0 h4)))
def B330_723 (x3 : Int32) (h : TH) (C : Int32 → TH → Prop) (X18 : Int32 × TH → Prop) : Prop :=
  inb (x3 + 1) (h.N 1000000) ∧ W167 (h.I 1000000 (ix (x3 + 1))) h (fun v1 h2 => inb (x3 + 1) (h2.N 1000000) ∧ W277 (h2.I 1000000 (ix (x3 + 1))) h2 (fun v3 h4 => if v1 = v3 then (X18 ((x3 + 6), h4)) else (C 0 h4)))
def B330_746 (x3 : Int32) (h : TH) (C : Int32 → TH → Prop) (X18 : Int32 × TH → Prop) : Prop :=
  inb (x3 + 1) (h.N 1000000) ∧ inb (x3 + 2) (h.N 1000000) ∧ W168 (h.I 1000000 (ix (x3 + 1))) (h.I 1000000 (ix (x3 + 2))) h (fun v1 h2 => inb (x3 + 1) (h2.N 1000000) ∧ inb (x3 + 2) (h2.N 1000000) ∧ W278 (h2.I 1000000 (ix (x3 + 1))) (h2.I 1000000 (ix (x3 + 2))) h2 (fun v3 h4 => if v1 = v3 then (X18 ((x3 + 6), h4)) else (C 0 h4)))
def B330_779 (x3 : Int32) (h : TH) (C : Int32 → TH → Prop) (X18 : Int32 × TH → Prop) : Prop :=
  inb (x3 + 1) (h.N 1000000) ∧ W169 (h.I 1000000 (ix (x3 + 1))) h (fun v1 h2 => inb (x3 + 1) (h2.N 1000000) ∧ W279 (h2.I 1000000 (ix (x3 + 1))) h2 (fun v3 h4 => if v1 = v3 then (X18 ((x3 + 6), h4)) else (C 0 h4)))
def B330_802 (x3 : Int32) (h : TH) (C : Int32 → TH → Prop) (X18 : Int32 × TH → Prop) : Prop :=
  inb (x3 + 1) (h.N 1000000) ∧ W170 (h.I 1000000 (ix (x3 + 1))) h (fun v1 h2 => inb (x3 + 1) (h2.N 1000000) ∧ W280 (h2.I 1000000 (ix (x3 + 1))) h2 (fun v3 h4 => if v1 = v3 then (X18 ((x3 + 6), h4)) else (C 0 h4)))
def B330_825 (x3 : Int32) (h : TH) (C : Int32 → TH → Prop) (X18 : Int32 × TH → Prop) : Prop :=
  inb (x3 + 1) (h.N 1000000) ∧ W171 (h.I 1000000 (ix (x3 + 1))) h (fun v1 h2 => inb (x3 + 1) (h2.N 1000000) ∧ W281 (h2.I 1000000 (ix (x3 + 1))) h2 (fun v3 h4 => if v1 = v3 then (X18 ((x3 + 6), h4)) else (C 0 h4)))
def B330_848 (x3 : Int32) (h : TH) (C : Int32 → TH → Prop) (X18 : Int32 × TH → Prop) : Prop :=
  inb (x3 + 1) (h.N 1000000) ∧ W172 (h.I 1000000 (ix (x3 + 1))) h (fun v1 h2 => inb (x3 + 1) (h2.N 1000000) ∧ W282 (h2.I 1000000 (ix (x3 + 1))) h2 (fun v3 h4 => if v1 = v3 then (X18 ((x3 + 6), h4)) else (C 0 h4)))
def B330_871 (x3 : Int32) (h : TH) (C : Int32 → TH → Prop) (X18 : Int32 × TH → Prop) : Prop :=
  W173  h (fun v1 h2 => W283  h2 (fun v3 h4 => if v1 = v3 then (X18 ((x3 + 6), h4)) else (C 0 h4)))
def B330_884 (x3 : Int32) (h : TH) (C : Int32 → TH → Prop) (X18 : Int32 × TH → Prop) : Prop :=
  inb (x3 + 1) (h.N 1000000) ∧ W174 (h.I 1000000 (ix (x3 + 1))) h (fun v1 h2 => inb (x3 + 1) (h2.N 1000000) ∧ W289 (h2.I 1000000 (ix (x3 + 1))) h2 (fun v3 h4 => if v1 = v3 then (X18 ((x3 + 6), h4)) else (C 0 h4)))
def B330_907 (x3 : Int32) (h : TH) (C : Int32 → TH → Prop) (X18 : Int32 × TH → Prop) : Prop :=
  inb (x3 + 1) (h.N 1000000) ∧ W175 (h.I 1000000 (ix (x3 + 1))) h (fun v1 h2 => inb (x3 + 1) (h2.N 1000000) ∧ W290 (h2.I 1000000 (ix (x3 + 1))) h2 (fun v3 h4 => if v1 = v3 then (X18 ((x3 + 6), h4)) else (C 0 h4)))
def B330_930 (x3 : Int32) (h : TH) (C : Int32 → TH → Prop) (X18 : Int32 × TH → Prop) : Prop :=
  inb (x3 + 1) (h.N 1000000) ∧ W176 (h.I 1000000 (ix (x3 + 1))) h (fun v1 h2 => inb (x3 + 1) (h2.N 1000000) ∧ W293 (h2.I 1000000 (ix (x3 + 1))) h2 (fun v3 h4 => if v1 = v3 then (X18 ((x3 + 6), h4)) else (C 0 h4)))
def B330_953 (x3 : Int32) (h : TH) (C : Int32 → TH → Prop) (X18 : Int32 × TH → Prop) : Prop :=
  inb (x3 + 1) (h.N 1000000) ∧ inb (x3 + 2) (h.N 1000000) ∧ W177 (h.I 1000000 (ix (x3 + 1))) (h.I 1000000 (ix (x3 + 2))) h (fun v1 h2 => inb (x3 + 1) (h2.N 1000000) ∧ inb (x3 + 2) (h2.N 1000000) ∧ W294 (h2.I 1000000 (ix (x3 + 1))) (h2.I 1000000 (ix (x3 + 2))) h2 (fun v3 h4 => if v1 = v3 then (X18 ((x3 + 6), h4)) else (C 0 h4)))
def B330_986 (x3 : Int32) (h : TH) (C : Int32 → TH → Prop) (X18 : Int32 × TH → Prop) : Prop :=
  inb (x3 + 1) (h.N 1000000) ∧ W178 (h.I 1000000 (ix (x3 + 1))) h (fun v1 h2 => inb (x3 + 1) (h2.N 1000000) ∧ W297 (h2.I 1000000 (ix (x3 + 1))) h2 (fun v3 h4 => if v1 = v3 then (X18 ((x3 + 6), h4)) else (C 0 h4)))
def B330_1009 (x3 : Int32) (h : TH) (C : Int32 → TH → Prop) (X18 : Int32 × TH → Prop) : Prop :=
  inb (x3 + 1) (h.N 1000000) ∧ inb (x3 + 2) (h.N 1000000) ∧ W179 (h.I 1000000 (ix (x3 + 1))) (h.I 1000000 (ix (x3 + 2))) h (fun v1 h2 => inb (x3 + 1) (h2.N 1000000) ∧ inb (x3 + 2) (h2.N 1000000) ∧ W298 (h2.I 1000000 (ix (x3 + 1))) (h2.I 1000000 (ix (x3 + 2))) h2 (fun v3 h4 => if v1 = v3 then (X18 ((x3 + 6), h4)) else (C 0 h4)))
def B330_1042 (x3 : Int32) (h : TH) (C : Int32 → TH → Prop) (X18 : Int32 × TH → Prop) : Prop :=
  inb (x3 + 1) (h.N 1000000) ∧ W180 (h.I 1000000 (ix (x3 + 1))) h (fun v1 h2 => inb (x3 + 1) (h2.N 1000000) ∧ W303 (h2.I 1000000 (ix (x3 + 1))) h2 (fun v3 h4 => if v1 = v3 then (X18 ((x3 + 6), h4)) else (C 0 h4)))
def B330_1065 (x3 : Int32) (h : TH) (C : Int32 → TH → Prop) (X18 : Int32 × TH → Prop) : Prop :=
  inb (x3 + 1) (h.N 1000000) ∧ W181 (h.I 1000000 (ix (x3 + 1))) h (fun v1 h2 => inb (x3 + 1) (h2.N 1000000) ∧ W305 (h2.I 1000000 (ix (x3 + 1))) h2 (fun v3 h4 => if v1 = v3 then (X18 ((x3 + 6), h4)) else (C 0 h4)))
def B330_1088 (x3 : Int32) (h : TH) (C : Int32 → TH → Prop) (X18 : Int32 × TH → Prop) : Prop :=
  inb (x3 + 1) (h.N 1000000) ∧ W182 (h.I 1000000 (ix (x3 + 1))) h (fun v1 h2 => inb (x3 + 1) (h2.N 1000000) ∧ W307 (h2.I 1000000 (ix (x3 + 1))) h2 (fun v3 h4 => if v1 = v3 then (X18 ((x3 + 6), h4)) else (C 0 h4)))
def B330_1111 (x3 : Int32) (h : TH) (C : Int32 → TH → Prop) (X18 : Int32 × TH → Prop) : Prop :=
  inb (x3 + 1) (h.N 1000000) ∧ inb (x3 + 2) (h.N 1000000) ∧ W183 (h.I 1000000 (ix (x3 + 1))) (h.I 1000000 (ix (x3 + 2))) h (fun v1 h2 => inb (x3 + 1) (h2.N 1000000) ∧ inb (x3 + 2) (h2.N 1000000) ∧ W309 (h2.I 1000000 (ix (x3 + 1))) (h2.I 1000000 (ix (x3 + 2))) h2 (fun v3 h4 => if v1 = v3 then (X18 ((x3 + 6), h4)) else (C 0 h4)))
def B330_1144 (x3 : Int32) (h : TH) (C : Int32 → TH → Prop) (X18 : Int32 × TH → Prop) : Prop :=
  inb (x3 + 1) (h.N 1000000) ∧ inb (x3 + 2) (h.N 1000000) ∧ W184 (h.I 1000000 (ix (x3 + 1))) (h.I 1000000 (ix (x3 + 2))) h (fun v1 h2 => inb (x3 + 1) (h2.N 1000000) ∧ inb (x3 + 2) (h2.N 1000000) ∧ W310 (h2.I 1000000 (ix (x3 + 1))) (h2.I 1000000 (ix (x3 + 2))) h2 (fun v3 h4 => if v1 = v3 then (X18 ((x3 + 6), h4)) else (C 0 h4)))
def B330_1177 (x3 : Int32) (h : TH) (C : Int32 → TH → Prop) (X18 : Int32 × TH → Prop) : Prop :=
  inb (x3 + 1) (h.N 1000000) ∧ W185 (h.I 1000000 (ix (x3 + 1))) h (fun v1 h2 => inb (x3 + 1) (h2.N 1000000) ∧ W311 (h2.I 1000000 (ix (x3 + 1))) h2 (fun v3 h4 => if v1 = v3 then (X18 ((x3 + 6), h4)) else (C 0 h4)))
def B330_1200 (x3 : Int32) (h : TH) (C : Int32 → TH → Prop) (X18 : Int32 × TH → Prop) : Prop :=
  inb (x3 + 1) (h.N 1000000) ∧ W186 (h.I 1000000 (ix (x3 + 1))) h (fun v1 h2 => inb (x3 + 1) (h2.N 1000000) ∧ W319 (h2.I 1000000 (ix (x3 + 1))) h2 (fun v3 h4 => if v1 = v3 then (X18 ((x3 + 6), h4)) else (C 0 h4)))
def B330_1223 (x3 : Int32) (h : TH) (C : Int32 → TH → Prop) (X18 : Int32 × TH → Prop) : Prop :=
  inb (x3 + 1) (h.N 1000000) ∧ W187 (h.I 1000000 (ix (x3 + 1))) h (fun v1 h2 => inb (x3 + 1) (h2.N 1000000) ∧ W320 (h2.I 1000000 (ix (x3 + 1))) h2 (fun v3 h4 => if v1 = v3 then (X18 ((x3 + 6), h4)) else (C 0 h4)))
def B330_1246 (x3 : Int32) (h : TH) (C : Int32 → TH → Prop) (X18 : Int32 × TH → Prop) : Prop :=
  W188  h (fun v1 h2 => W321  h2 (fun v3 h4 => if v1 = v3 then (X18 ((x3 + 6), h4)) else (C 0 h4)))
def B330_1259 (x3 : Int32) (h : TH) (C : Int32 → TH → Prop) (X18 : Int32 × TH → Prop) : Prop :=
  inb (x3 + 1) (h.N 1000000) ∧ inb (x3 + 2) (h.N 1000000) ∧ inb (x3 + 3) (h.N 1000000) ∧ W189 (h.I 1000000 (ix (x3 + 1))) (h.I 1000000 (ix (x3 + 2))) (h.I 1000000 (ix (x3 + 3))) h (fun v1 h2 => inb (x3 + 1) (h2.N 1000000) ∧ inb (x3 + 2) (h2.N 1000000) ∧ inb (x3 + 3) (h2.N 1000000) ∧ W322 (h2.I 1000000 (ix (x3 + 1))) (h2.I 1000000 (ix (x3 + 2))) (h2.I 1000000 (ix (x3 + 3))) h2 (fun v3 h4 => if v1 = v3 then (X18 ((x3 + 6), h4)) else (C 0 h4)))
def B330_1302 (x3 : Int32) (h : TH) (C : Int32 → TH → Prop) (X18 : Int32 × TH → Prop) : Prop :=
  W190  h (fun v1 h2 => W324  h2 (fun v3 h4 => if v1 = v3 then (X18 ((x3 + 6), h4)) else (C 0 h4)))
def B330_1315 (x3 : Int32) (h : TH) (C : Int32 → TH → Prop) (X18 : Int32 × TH → Prop) : Prop :=
  W191  h (fun v1 h2 => W325  h2 (fun v3 h4 => if v1 = v3 then (X18 ((x3 + 6), h4)) else (C 0 h4)))
def F330_18 (C : Int32 → TH → Prop) (X18 : Int32 × TH → Prop) : Int32 × TH → Prop := fun
  | (x3, h) =>
    if ((nI (h.N 1000000)) - 6) < x3 then (C 1 h) else (inb x3 (h.N 1000000) ∧ if ((h.I 1000000 (ix x3)) &&& 63) = 0 then (B330_212 x3 h C X18) else if ((h.I 1000000 (ix x3)) &&& 63) = 1 then (B330_225 x3 h C X18) else if ((h.I 1000000 (ix x3)) &&& 63) = 2 then (B330_239 x3 h C X18) else if ((h.I 1000000 (ix x3)) &&& 63) = 3 then (B330_253 x3 h C X18) else if ((h.I 1000000 (ix x3)) &&& 63) = 4 then (B330_296 x3 h C X18) else if ((h.I 1000000 (ix x3)) &&& 63) = 5 then (B330_369 x3 h C X18) else if ((h.I 1000000 (ix x3)) &&& 63) = 6 then (B330_403 x3 h C X18) else if ((h.I 1000000 (ix x3)) &&& 63) = 7 then (B330_466 x3 h C X18) else if ((h.I 1000000 (ix x3)) &&& 63) = 8 then (B330_529 x3 h C X18) else if ((h.I 1000000 (ix x3)) &&& 63) = 9 then (B330_552 x3 h C X18) else if ((h.I 1000000 (ix x3)) &&& 63) = 10 then (B330_575 x3 h C X18) else if ((h.I 1000000 (ix x3)) &&& 63) = 11 then (B330_598 x3 h C X18) else if ((h.I 1000000 (ix x3)) &&& 63) = 12 then (B330_621 x3 h C X18) else if ((h.I 1000000 (ix x3)) &&& 63) = 13 then (B330_654 x3 h C X18) else if ((h.I 1000000 (ix x3)) &&& 63) = 14 then (B330_677 x3 h C X18) else if ((h.I 1000000 (ix x3)) &&& 63) = 15 then (B330_700 x3 h C X18) else if ((h.I 1000000 (ix x3)) &&& 63) = 16 then (B330_723 x3 h C X18) else if ((h.I 1000000 (ix x3)) &&& 63) = 17 then (B330_746 x3 h C X18) else if ((h.I 1000000 (ix x3)) &&& 63) = 18 then (B330_779 x3 h C X18) else if ((h.I 1000000 (ix x3)) &&& 63) = 19 then (B330_802 x3 h C X18) else if ((h.I 1000000 (ix x3)) &&& 63) = 20 then (B330_825 x3 h C X18) else if ((h.I 1000000 (ix x3)) &&& 63) = 21 then (B330_848 x3 h C X18) else if ((h.I 1000000 (ix x3)) &&& 63) = 22 then (B330_871 x3 h C X18) else if ((h.I 1000000 (ix x3)) &&& 63) = 23 then (B330_884 x3 h C X18) else if ((h.I 1000000 (ix x3)) &&& 63) = 24 then (B330_907 x3 h C X18) else if ((h.I 1000000 (ix x3)) &&& 63) = 25 then (B330_930 x3 h C X18) else if ((h.I 1000000 (ix x3)) &&& 63) = 26 then (B330_953 x3 h C X18) else if ((h.I 1000000 (ix x3)) &&& 63) = 27 then (B330_986 x3 h C X18) else if ((h.I 1000000 (ix x3)) &&& 63) = 28 then (B330_1009 x3 h C X18) else if ((h.I 1000000 (ix x3)) &&& 63) = 29 then (B330_1042 x3 h C X18) else if ((h.I 1000000 (ix x3)) &&& 63) = 30 then (B330_1065 x3 h C X18) else if ((h.I 1000000 (ix x3)) &&& 63) = 31 then (B330_1088 x3 h C X18) else if ((h.I 1000000 (ix x3)) &&& 63) = 32 then (B330_1111 x3 h C X18) else if ((h.I 1000000 (ix x3)) &&& 63) = 33 then (B330_1144 x3 h C X18) else if ((h.I 1000000 (ix x3)) &&& 63) = 34 then (B330_1177 x3 h C X18) else if ((h.I 1000000 (ix x3)) &&& 63) = 35 then (B330_1200 x3 h C X18) else if ((h.I 1000000 (ix x3)) &&& 63) = 36 then (B330_1223 x3 h C X18) else if ((h.I 1000000 (ix x3)) &&& 63) = 37 then (B330_1246 x3 h C X18) else if ((h.I 1000000 (ix x3)) &&& 63) = 38 then (B330_1259 x3 h C X18) else if ((h.I 1000000 (ix x3)) &&& 63) = 39 then (B330_1302 x3 h C X18) else if ((h.I 1000000 (ix x3)) &&& 63) = 40 then (B330_1315 x3 h C X18) else (X18 ((x3 + 6), h)))
def B330_18 (x3 : Int32) (h : TH) (C : Int32 → TH → Prop) : Prop := LFP (F330_18 C) (x3, h)

set_option maxRecDepth 100000 in
set_option maxHeartbeats 4000000 in
theorem R330_212 {d : Nat} {x3 : Int32} {h : TH} {C : Int32 → TH → Prop} {X18 : Int32 × TH → Prop} (k18 : ∀ s : Int32 × TH, X18 s → Lay (s.2) → xEk (d + 9) 330 (18, [(0, .ref 1000000), (1, .ref 0), (2, .ref 197), (3, .int (s.1))], [], (TH.X (s.2))) (postI C)) (hL : Lay h) (hW : B330_212 x3 h C X18) : xEk (d + 9) 330 (212, [(0, .ref 1000000), (1, .ref 0), (2, .ref 197), (3, .int x3)], [], h.X) (postI C) := by
  unfold B330_212 at hW
  refine kst rfl rfl ?_
  refine qcvI rfl (oK11 hL rfl) rfl rfl (R151 (d := d + 8) (h := h) hL hW) (fun v1 hW => ?_)
  refine kst rfl rfl ?_
  refine qcvI rfl (oK12 hL rfl) rfl rfl (R201 (d := d + 8) (h := h) hL hW) (fun v2 hW => ?_)
  refine wcm_eq rfl hW (fun hW => ?_) (fun hW => ?_)
  · iterate 2 (refine kst rfl rfl ?_)
    have z9 := k18 ((x3 + 6), h) hW hL
    refine wjp ?_ z9
    exact ⟨rfl, rfl, rfl, rfl, trivial⟩
  · refine kst rfl rfl ?_
    refine kre rfl rfl ?_
    exact ⟨_, _, rfl, hL, hW⟩
set_option maxRecDepth 100000 in
set_option maxHeartbeats 4000000 in
theorem R330_225 {d : Nat} {x3 : Int32} {h : TH} {C : Int32 → TH → Prop} {X18 : Int32 × TH → Prop} (k18 : ∀ s : Int32 × TH, X18 s → Lay (s.2) → xEk (d + 9) 330 (18, [(0, .ref 1000000), (1, .ref 0), (2, .ref 197), (3, .int (s.1))], [], (TH.X (s.2))) (postI C)) (hL : Lay h) (hW : B330_225 x3 h C X18) : xEk (d + 9) 330 (225, [(0, .ref 1000000), (1, .ref 0), (2, .ref 197), (3, .int x3)], [], h.X) (postI C) := by
  unfold B330_225 at hW
  refine kst rfl rfl ?_
  refine qcvL rfl (oK11 hL rfl) rfl rfl (R152 (d := d + 8) (h := h) hL hW) (fun v1 hW => ?_)
  refine kst rfl rfl ?_
  refine qcvL rfl (oK12 hL rfl) rfl rfl (R202 (d := d + 8) (h := h) hL hW) (fun v2 hW => ?_)
  refine kst rfl rfl ?_
  refine wif_eq rfl hW (fun hW => ?_) (fun hW => ?_)
  · iterate 2 (refine kst rfl rfl ?_)
    have z9 := k18 ((x3 + 6), h) hW hL
    refine wjp ?_ z9
    exact ⟨rfl, rfl, rfl, rfl, trivial⟩
  · refine kst rfl rfl ?_
    refine kre rfl rfl ?_
    exact ⟨_, _, rfl, hL, hW⟩
set_option maxRecDepth 100000 in
set_option maxHeartbeats 4000000 in
theorem R330_239 {d : Nat} {x3 : Int32} {h : TH} {C : Int32 → TH → Prop} {X18 : Int32 × TH → Prop} (k18 : ∀ s : Int32 × TH, X18 s → Lay (s.2) → xEk (d + 9) 330 (18, [(0, .ref 1000000), (1, .ref 0), (2, .ref 197), (3, .int (s.1))], [], (TH.X (s.2))) (postI C)) (hL : Lay h) (hW : B330_239 x3 h C X18) : xEk (d + 9) 330 (239, [(0, .ref 1000000), (1, .ref 0), (2, .ref 197), (3, .int x3)], [], h.X) (postI C) := by
  unfold B330_239 at hW
  refine kst rfl rfl ?_
  refine qcvL rfl (oK11 hL rfl) rfl rfl (R153 (d := d + 8) (h := h) hL hW) (fun v1 hW => ?_)
  refine kst rfl rfl ?_
  refine qcvL rfl (oK12 hL rfl) rfl rfl (R203 (d := d + 8) (h := h) hL hW) (fun v2 hW => ?_)
  refine kst rfl rfl ?_
  refine wif_eq rfl hW (fun hW => ?_) (fun hW => ?_)
  · iterate 2 (refine kst rfl rfl ?_)
    have z9 := k18 ((x3 + 6), h) hW hL
    refine wjp ?_ z9
    exact ⟨rfl, rfl, rfl, rfl, trivial⟩
  · refine kst rfl rfl ?_
    refine kre rfl rfl ?_
    exact ⟨_, _, rfl, hL, hW⟩
set_option maxRecDepth 100000 in
set_option maxHeartbeats 4000000 in
theorem R330_253 {d : Nat} {x3 : Int32} {h : TH} {C : Int32 → TH → Prop} {X18 : Int32 × TH → Prop} (k18 : ∀ s : Int32 × TH, X18 s → Lay (s.2) → xEk (d + 9) 330 (18, [(0, .ref 1000000), (1, .ref 0), (2, .ref 197), (3, .int (s.1))], [], (TH.X (s.2))) (postI C)) (hL : Lay h) (hW : B330_253 x3 h C X18) : xEk (d + 9) 330 (253, [(0, .ref 1000000), (1, .ref 0), (2, .ref 197), (3, .int x3)], [], h.X) (postI C) := by
  unfold B330_253 at hW
  iterate 5 (refine kst rfl rfl ?_)
  obtain ⟨q2, hW⟩ := hW
  refine wald rfl (Or.inr (sK hL)) rfl (sN hL) q2 ?_
  iterate 4 (refine kst rfl rfl ?_)
  obtain ⟨q3, hW⟩ := hW
  refine wald rfl (Or.inr (sK hL)) rfl (sN hL) q3 ?_
  iterate 4 (refine kst rfl rfl ?_)
  obtain ⟨q4, hW⟩ := hW
  refine wald rfl (Or.inr (sK hL)) rfl (sN hL) q4 ?_
  refine wcvI rfl (oK11 hL rfl) rfl rfl (R154 (d := d + 6) (h := h) hL hW) (fun v1 h2 hL hW => ?_)
  iterate 5 (refine kst rfl rfl ?_)
  obtain ⟨q5, hW⟩ := hW
  refine wald rfl (Or.inr (sK hL)) rfl (sN hL) q5 ?_
  iterate 4 (refine kst rfl rfl ?_)
  obtain ⟨q6, hW⟩ := hW
  refine wald rfl (Or.inr (sK hL)) rfl (sN hL) q6 ?_
  iterate 4 (refine kst rfl rfl ?_)
  obtain ⟨q7, hW⟩ := hW
  refine wald rfl (Or.inr (sK hL)) rfl (sN hL) q7 ?_
  refine wcvI rfl (oK12 hL rfl) rfl rfl (R210 (d := d + 7) (h := h2) hL hW) (fun v3 h4 hL hW => ?_)
  refine wcm_eq rfl hW (fun hW => ?_) (fun hW => ?_)
  · iterate 2 (refine kst rfl rfl ?_)
    have z9 := k18 ((x3 + 6), h4) hW hL
    refine wjp ?_ z9
    exact ⟨rfl, rfl, rfl, rfl, trivial⟩
  · refine kst rfl rfl ?_
    refine kre rfl rfl ?_
    exact ⟨_, _, rfl, hL, hW⟩
set_option maxRecDepth 100000 in
set_option maxHeartbeats 4000000 in
theorem R330_296 {d : Nat} {x3 : Int32} {h : TH} {C : Int32 → TH → Prop} {X18 : Int32 × TH → Prop} (k18 : ∀ s : Int32 × TH, X18 s → Lay (s.2) → xEk (d + 9) 330 (18, [(0, .ref 1000000), (1, .ref 0), (2, .ref 197), (3, .int (s.1))], [], (TH.X (s.2))) (postI C)) (hL : Lay h) (hW : B330_296 x3 h C X18) : xEk (d + 9) 330 (296, [(0, .ref 1000000), (1, .ref 0), (2, .ref 197), (3, .int x3)], [], h.X) (postI C) := by
  unfold B330_296 at hW
  iterate 5 (refine kst rfl rfl ?_)
  obtain ⟨q2, hW⟩ := hW
  refine wald rfl (Or.inr (sK hL)) rfl (sN hL) q2 ?_
  iterate 4 (refine kst rfl rfl ?_)
  obtain ⟨q3, hW⟩ := hW
  refine wald rfl (Or.inr (sK hL)) rfl (sN hL) q3 ?_
  iterate 4 (refine kst rfl rfl ?_)
  obtain ⟨q4, hW⟩ := hW
  refine wald rfl (Or.inr (sK hL)) rfl (sN hL) q4 ?_
  iterate 7 (refine kst rfl rfl ?_)
  obtain ⟨q5, hW⟩ := hW
  refine wald rfl (Or.inr (sK hL)) rfl (sN hL) q5 ?_
  iterate 4 (refine kst rfl rfl ?_)
  refine wcvI rfl (oK11 hL rfl) rfl rfl (R155 (d := d + 6) (h := h) hL hW) (fun v1 h2 hL hW => ?_)
  iterate 5 (refine kst rfl rfl ?_)
  obtain ⟨q6, hW⟩ := hW
  refine wald rfl (Or.inr (sK hL)) rfl (sN hL) q6 ?_
  iterate 4 (refine kst rfl rfl ?_)
  obtain ⟨q7, hW⟩ := hW
  refine wald rfl (Or.inr (sK hL)) rfl (sN hL) q7 ?_
  iterate 4 (refine kst rfl rfl ?_)
  obtain ⟨q8, hW⟩ := hW
  refine wald rfl (Or.inr (sK hL)) rfl (sN hL) q8 ?_
  iterate 7 (refine kst rfl rfl ?_)
  obtain ⟨q9, hW⟩ := hW
  refine wald rfl (Or.inr (sK hL)) rfl (sN hL) q9 ?_
  iterate 4 (refine kst rfl rfl ?_)
  refine wcvI rfl (oK12 hL rfl) rfl rfl (R212 (d := d + 6) (h := h2) hL hW) (fun v3 h4 hL hW => ?_)
  refine wcm_eq rfl hW (fun hW => ?_) (fun hW => ?_)
  · iterate 2 (refine kst rfl rfl ?_)
    have z9 := k18 ((x3 + 6), h4) hW hL
    refine wjp ?_ z9
    exact ⟨rfl, rfl, rfl, rfl, trivial⟩
  · refine kst rfl rfl ?_
    refine kre rfl rfl ?_
    exact ⟨_, _, rfl, hL, hW⟩
set_option maxRecDepth 100000 in
set_option maxHeartbeats 4000000 in
theorem R330_369 {d : Nat} {x3 : Int32} {h : TH} {C : Int32 → TH → Prop} {X18 : Int32 × TH → Prop} (k18 : ∀ s : Int32 × TH, X18 s → Lay (s.2) → xEk (d + 9) 330 (18, [(0, .ref 1000000), (1, .ref 0), (2, .ref 197), (3, .int (s.1))], [], (TH.X (s.2))) (postI C)) (hL : Lay h) (hW : B330_369 x3 h C X18) : xEk (d + 9) 330 (369, [(0, .ref 1000000), (1, .ref 0), (2, .ref 197), (3, .int x3)], [], h.X) (postI C) := by
  unfold B330_369 at hW
  iterate 5 (refine kst rfl rfl ?_)
  obtain ⟨q2, hW⟩ := hW
  refine wald rfl (Or.inr (sK hL)) rfl (sN hL) q2 ?_
  iterate 4 (refine kst rfl rfl ?_)
  obtain ⟨q3, hW⟩ := hW
  refine wald rfl (Or.inr (sK hL)) rfl (sN hL) q3 ?_
  refine wcvL rfl (oK11 hL rfl) rfl rfl (R156 (d := d + 6) (h := h) hL hW) (fun v1 h2 hL hW => ?_)
  iterate 5 (refine kst rfl rfl ?_)
  obtain ⟨q4, hW⟩ := hW
  refine wald rfl (Or.inr (sK hL)) rfl (sN hL) q4 ?_
  iterate 4 (refine kst rfl rfl ?_)
  obtain ⟨q5, hW⟩ := hW
  refine wald rfl (Or.inr (sK hL)) rfl (sN hL) q5 ?_
  refine wcvL rfl (oK12 hL rfl) rfl rfl (R213 (d := d + 6) (h := h2) hL hW) (fun v3 h4 hL hW => ?_)
  refine kst rfl rfl ?_
  refine wif_eq rfl hW (fun hW => ?_) (fun hW => ?_)
  · iterate 2 (refine kst rfl rfl ?_)
    have z9 := k18 ((x3 + 6), h4) hW hL
    refine wjp ?_ z9
    exact ⟨rfl, rfl, rfl, rfl, trivial⟩
  · refine kst rfl rfl ?_
    refine kre rfl rfl ?_
    exact ⟨_, _, rfl, hL, hW⟩
set_option maxRecDepth 100000 in
set_option maxHeartbeats 4000000 in
theorem R330_403 {d : Nat} {x3 : Int32} {h : TH} {C : Int32 → TH → Prop} {X18 : Int32 × TH → Prop} (k18 : ∀ s : Int32 × TH, X18 s → Lay (s.2) → xEk (d + 9) 330 (18, [(0, .ref 1000000), (1, .ref 0), (2, .ref 197), (3, .int (s.1))], [], (TH.X (s.2))) (postI C)) (hL : Lay h) (hW : B330_403 x3 h C X18) : xEk (d + 9) 330 (403, [(0, .ref 1000000), (1, .ref 0), (2, .ref 197), (3, .int x3)], [], h.X) (postI C) := by
  unfold B330_403 at hW
  iterate 5 (refine kst rfl rfl ?_)
  obtain ⟨q2, hW⟩ := hW
  refine wald rfl (Or.inr (sK hL)) rfl (sN hL) q2 ?_
  iterate 4 (refine kst rfl rfl ?_)
  obtain ⟨q3, hW⟩ := hW
  refine wald rfl (Or.inr (sK hL)) rfl (sN hL) q3 ?_
  iterate 4 (refine kst rfl rfl ?_)
  obtain ⟨q4, hW⟩ := hW
  refine wald rfl (Or.inr (sK hL)) rfl (sN hL) q4 ?_
  iterate 4 (refine kst rfl rfl ?_)
  obtain ⟨q5, hW⟩ := hW
  refine wald rfl (Or.inr (sK hL)) rfl (sN hL) q5 ?_
  iterate 4 (refine kst rfl rfl ?_)
  obtain ⟨q6, hW⟩ := hW
  refine wald rfl (Or.inr (sK hL)) rfl (sN hL) q6 ?_
  refine wcvI rfl (oK11 hL rfl) rfl rfl (R157 (d := d + 7) (h := h) hL hW) (fun v1 h2 hL hW => ?_)
  iterate 5 (refine kst rfl rfl ?_)
  obtain ⟨q7, hW⟩ := hW
  refine wald rfl (Or.inr (sK hL)) rfl (sN hL) q7 ?_
  iterate 4 (refine kst rfl rfl ?_)
  obtain ⟨q8, hW⟩ := hW
  refine wald rfl (Or.inr (sK hL)) rfl (sN hL) q8 ?_
  iterate 4 (refine kst rfl rfl ?_)
  obtain ⟨q9, hW⟩ := hW
  refine wald rfl (Or.inr (sK hL)) rfl (sN hL) q9 ?_
  iterate 4 (refine kst rfl rfl ?_)
  obtain ⟨q10, hW⟩ := hW
  refine wald rfl (Or.inr (sK hL)) rfl (sN hL) q10 ?_
  iterate 4 (refine kst rfl rfl ?_)
  obtain ⟨q11, hW⟩ := hW
  refine wald rfl (Or.inr (sK hL)) rfl (sN hL) q11 ?_
  refine wcvI rfl (oK12 hL rfl) rfl rfl (R214 (d := d + 7) (h := h2) hL hW) (fun v3 h4 hL hW => ?_)
  refine wcm_eq rfl hW (fun hW => ?_) (fun hW => ?_)
  · iterate 2 (refine kst rfl rfl ?_)
    have z9 := k18 ((x3 + 6), h4) hW hL
    refine wjp ?_ z9
    exact ⟨rfl, rfl, rfl, rfl, trivial⟩
  · refine kst rfl rfl ?_
    refine kre rfl rfl ?_
    exact ⟨_, _, rfl, hL, hW⟩
set_option maxRecDepth 100000 in
set_option maxHeartbeats 4000000 in
theorem R330_466 {d : Nat} {x3 : Int32} {h : TH} {C : Int32 → TH → Prop} {X18 : Int32 × TH → Prop} (k18 : ∀ s : Int32 × TH, X18 s → Lay (s.2) → xEk (d + 9) 330 (18, [(0, .ref 1000000), (1, .ref 0), (2, .ref 197), (3, .int (s.1))], [], (TH.X (s.2))) (postI C)) (hL : Lay h) (hW : B330_466 x3 h C X18) : xEk (d + 9) 330 (466, [(0, .ref 1000000), (1, .ref 0), (2, .ref 197), (3, .int x3)], [], h.X) (postI C) := by
  unfold B330_466 at hW
  iterate 5 (refine kst rfl rfl ?_)
  obtain ⟨q2, hW⟩ := hW
  refine wald rfl (Or.inr (sK hL)) rfl (sN hL) q2 ?_
  iterate 4 (refine kst rfl rfl ?_)
  obtain ⟨q3, hW⟩ := hW
  refine wald rfl (Or.inr (sK hL)) rfl (sN hL) q3 ?_
  iterate 4 (refine kst rfl rfl ?_)
  obtain ⟨q4, hW⟩ := hW
  refine wald rfl (Or.inr (sK hL)) rfl (sN hL) q4 ?_
  iterate 4 (refine kst rfl rfl ?_)
  obtain ⟨q5, hW⟩ := hW
  refine wald rfl (Or.inr (sK hL)) rfl (sN hL) q5 ?_
  iterate 4 (refine kst rfl rfl ?_)
  obtain ⟨q6, hW⟩ := hW
  refine wald rfl (Or.inr (sK hL)) rfl (sN hL) q6 ?_
  refine wcvI rfl (oK11 hL rfl) rfl rfl (R158 (d := d + 7) (h := h) hL hW) (fun v1 h2 hL hW => ?_)
  iterate 5 (refine kst rfl rfl ?_)
  obtain ⟨q7, hW⟩ := hW
  refine wald rfl (Or.inr (sK hL)) rfl (sN hL) q7 ?_
  iterate 4 (refine kst rfl rfl ?_)
  obtain ⟨q8, hW⟩ := hW
  refine wald rfl (Or.inr (sK hL)) rfl (sN hL) q8 ?_
  iterate 4 (refine kst rfl rfl ?_)
  obtain ⟨q9, hW⟩ := hW
  refine wald rfl (Or.inr (sK hL)) rfl (sN hL) q9 ?_
  iterate 4 (refine kst rfl rfl ?_)
  obtain ⟨q10, hW⟩ := hW
  refine wald rfl (Or.inr (sK hL)) rfl (sN hL) q10 ?_
  iterate 4 (refine kst rfl rfl ?_)
  obtain ⟨q11, hW⟩ := hW
  refine wald rfl (Or.inr (sK hL)) rfl (sN hL) q11 ?_
  refine wcvI rfl (oK12 hL rfl) rfl rfl (R216 (d := d + 7) (h := h2) hL hW) (fun v3 h4 hL hW => ?_)
  refine wcm_eq rfl hW (fun hW => ?_) (fun hW => ?_)
  · iterate 2 (refine kst rfl rfl ?_)
    have z9 := k18 ((x3 + 6), h4) hW hL
    refine wjp ?_ z9
    exact ⟨rfl, rfl, rfl, rfl, trivial⟩
  · refine kst rfl rfl ?_
    refine kre rfl rfl ?_
    exact ⟨_, _, rfl, hL, hW⟩
set_option maxRecDepth 100000 in
set_option maxHeartbeats 4000000 in
theorem R330_529 {d : Nat} {x3 : Int32} {h : TH} {C : Int32 → TH → Prop} {X18 : Int32 × TH → Prop} (k18 : ∀ s : Int32 × TH, X18 s → Lay (s.2) → xEk (d + 9) 330 (18, [(0, .ref 1000000), (1, .ref 0), (2, .ref 197), (3, .int (s.1))], [], (TH.X (s.2))) (postI C)) (hL : Lay h) (hW : B330_529 x3 h C X18) : xEk (d + 9) 330 (529, [(0, .ref 1000000), (1, .ref 0), (2, .ref 197), (3, .int x3)], [], h.X) (postI C) := by
  unfold B330_529 at hW
  iterate 5 (refine kst rfl rfl ?_)
  obtain ⟨q2, hW⟩ := hW
  refine wald rfl (Or.inr (sK hL)) rfl (sN hL) q2 ?_
  refine wcvI rfl (oK11 hL rfl) rfl rfl (R159 (d := d + 1) (h := h) hL hW) (fun v1 h2 hL hW => ?_)
  iterate 5 (refine kst rfl rfl ?_)
  obtain ⟨q3, hW⟩ := hW
  refine wald rfl (Or.inr (sK hL)) rfl (sN hL) q3 ?_
  refine wcvI rfl (oK12 hL rfl) rfl rfl (R242 (d := d + 2) (h := h2) hL hW) (fun v3 h4 hL hW => ?_)
  refine wcm_eq rfl hW (fun hW => ?_) (fun hW => ?_)
  · iterate 2 (refine kst rfl rfl ?_)
    have z9 := k18 ((x3 + 6), h4) hW hL
    refine wjp ?_ z9
    exact ⟨rfl, rfl, rfl, rfl, trivial⟩
  · refine kst rfl rfl ?_
    refine kre rfl rfl ?_
    exact ⟨_, _, rfl, hL, hW⟩
set_option maxRecDepth 100000 in
set_option maxHeartbeats 4000000 in
theorem R330_552 {d : Nat} {x3 : Int32} {h : TH} {C : Int32 → TH → Prop} {X18 : Int32 × TH → Prop} (k18 : ∀ s : Int32 × TH, X18 s → Lay (s.2) → xEk (d + 9) 330 (18, [(0, .ref 1000000), (1, .ref 0), (2, .ref 197), (3, .int (s.1))], [], (TH.X (s.2))) (postI C)) (hL : Lay h) (hW : B330_552 x3 h C X18) : xEk (d + 9) 330 (552, [(0, .ref 1000000), (1, .ref 0), (2, .ref 197), (3, .int x3)], [], h.X) (postI C) := by
  unfold B330_552 at hW
  iterate 5 (refine kst rfl rfl ?_)
  obtain ⟨q2, hW⟩ := hW
  refine wald rfl (Or.inr (sK hL)) rfl (sN hL) q2 ?_
  refine wcvI rfl (oK11 hL rfl) rfl rfl (R160 (d := d + 1) (h := h) hL hW) (fun v1 h2 hL hW => ?_)
  iterate 5 (refine kst rfl rfl ?_)
  obtain ⟨q3, hW⟩ := hW
  refine wald rfl (Or.inr (sK hL)) rfl (sN hL) q3 ?_
  refine wcvI rfl (oK12 hL rfl) rfl rfl (R246 (d := d + 1) (h := h2) hL hW) (fun v3 h4 hL hW => ?_)
  refine wcm_eq rfl hW (fun hW => ?_) (fun hW => ?_)
  · iterate 2 (refine kst rfl rfl ?_)
    have z9 := k18 ((x3 + 6), h4) hW hL
    refine wjp ?_ z9
    exact ⟨rfl, rfl, rfl, rfl, trivial⟩
  · refine kst rfl rfl ?_
    refine kre rfl rfl ?_
    exact ⟨_, _, rfl, hL, hW⟩
set_option maxRecDepth 100000 in
set_option maxHeartbeats 4000000 in
theorem R330_575 {d : Nat} {x3 : Int32} {h : TH} {C : Int32 → TH → Prop} {X18 : Int32 × TH → Prop} (k18 : ∀ s : Int32 × TH, X18 s → Lay (s.2) → xEk (d + 9) 330 (18, [(0, .ref 1000000), (1, .ref 0), (2, .ref 197), (3, .int (s.1))], [], (TH.X (s.2))) (postI C)) (hL : Lay h) (hW : B330_575 x3 h C X18) : xEk (d + 9) 330 (575, [(0, .ref 1000000), (1, .ref 0), (2, .ref 197), (3, .int x3)], [], h.X) (postI C) := by
  unfold B330_575 at hW
  iterate 5 (refine kst rfl rfl ?_)
  obtain ⟨q2, hW⟩ := hW
  refine wald rfl (Or.inr (sK hL)) rfl (sN hL) q2 ?_
  refine qcvI rfl (oK11 hL rfl) rfl rfl (R161 (d := d + 8) (h := h) hL hW) (fun v1 hW => ?_)
  iterate 5 (refine kst rfl rfl ?_)
  obtain ⟨q3, hW⟩ := hW
  refine wald rfl (Or.inr (sK hL)) rfl (sN hL) q3 ?_
  refine qcvI rfl (oK12 hL rfl) rfl rfl (R232 (d := d + 8) (h := h) hL hW) (fun v2 hW => ?_)
  refine wcm_eq rfl hW (fun hW => ?_) (fun hW => ?_)
  · iterate 2 (refine kst rfl rfl ?_)
    have z9 := k18 ((x3 + 6), h) hW hL
    refine wjp ?_ z9
    exact ⟨rfl, rfl, rfl, rfl, trivial⟩
  · refine kst rfl rfl ?_
    refine kre rfl rfl ?_
    exact ⟨_, _, rfl, hL, hW⟩
set_option maxRecDepth 100000 in
set_option maxHeartbeats 4000000 in
theorem R330_598 {d : Nat} {x3 : Int32} {h : TH} {C : Int32 → TH → Prop} {X18 : Int32 × TH → Prop} (k18 : ∀ s : Int32 × TH, X18 s → Lay (s.2) → xEk (d + 9) 330 (18, [(0, .ref 1000000), (1, .ref 0), (2, .ref 197), (3, .int (s.1))], [], (TH.X (s.2))) (postI C)) (hL : Lay h) (hW : B330_598 x3 h C X18) : xEk (d + 9) 330 (598, [(0, .ref 1000000), (1, .ref 0), (2, .ref 197), (3, .int x3)], [], h.X) (postI C) := by
  unfold B330_598 at hW
  iterate 5 (refine kst rfl rfl ?_)
  obtain ⟨q2, hW⟩ := hW
  refine wald rfl (Or.inr (sK hL)) rfl (sN hL) q2 ?_
  refine wcvI rfl (oK11 hL rfl) rfl rfl (R162 (d := d + 7) (h := h) hL hW) (fun v1 h2 hL hW => ?_)
  iterate 5 (refine kst rfl rfl ?_)
  obtain ⟨q3, hW⟩ := hW
  refine wald rfl (Or.inr (sK hL)) rfl (sN hL) q3 ?_
  refine wcvI rfl (oK12 hL rfl) rfl rfl (R258 (d := d + 7) (h := h2) hL hW) (fun v3 h4 hL hW => ?_)
  refine wcm_eq rfl hW (fun hW => ?_) (fun hW => ?_)
  · iterate 2 (refine kst rfl rfl ?_)
    have z9 := k18 ((x3 + 6), h4) hW hL
    refine wjp ?_ z9
    exact ⟨rfl, rfl, rfl, rfl, trivial⟩
  · refine kst rfl rfl ?_
    refine kre rfl rfl ?_
    exact ⟨_, _, rfl, hL, hW⟩
set_option maxRecDepth 100000 in
set_option maxHeartbeats 4000000 in
theorem R330_621 {d : Nat} {x3 : Int32} {h : TH} {C : Int32 → TH → Prop} {X18 : Int32 × TH → Prop} (k18 : ∀ s : Int32 × TH, X18 s → Lay (s.2) → xEk (d + 9) 330 (18, [(0, .ref 1000000), (1, .ref 0), (2, .ref 197), (3, .int (s.1))], [], (TH.X (s.2))) (postI C)) (hL : Lay h) (hW : B330_621 x3 h C X18) : xEk (d + 9) 330 (621, [(0, .ref 1000000), (1, .ref 0), (2, .ref 197), (3, .int x3)], [], h.X) (postI C) := by
  unfold B330_621 at hW
  iterate 5 (refine kst rfl rfl ?_)
  obtain ⟨q2, hW⟩ := hW
  refine wald rfl (Or.inr (sK hL)) rfl (sN hL) q2 ?_
  iterate 4 (refine kst rfl rfl ?_)
  obtain ⟨q3, hW⟩ := hW
  refine wald rfl (Or.inr (sK hL)) rfl (sN hL) q3 ?_
  refine wcvI rfl (oK11 hL rfl) rfl rfl (R163 (d := d + 6) (h := h) hL hW) (fun v1 h2 hL hW => ?_)
  iterate 5 (refine kst rfl rfl ?_)
  obtain ⟨q4, hW⟩ := hW
  refine wald rfl (Or.inr (sK hL)) rfl (sN hL) q4 ?_
  iterate 4 (refine kst rfl rfl ?_)
  obtain ⟨q5, hW⟩ := hW
  refine wald rfl (Or.inr (sK hL)) rfl (sN hL) q5 ?_
  refine wcvI rfl (oK12 hL rfl) rfl rfl (R259 (d := d + 6) (h := h2) hL hW) (fun v3 h4 hL hW => ?_)
  refine wcm_eq rfl hW (fun hW => ?_) (fun hW => ?_)
  · iterate 2 (refine kst rfl rfl ?_)
    have z9 := k18 ((x3 + 6), h4) hW hL
    refine wjp ?_ z9
    exact ⟨rfl, rfl, rfl, rfl, trivial⟩
  · refine kst rfl rfl ?_
    refine kre rfl rfl ?_
    exact ⟨_, _, rfl, hL, hW⟩
set_option maxRecDepth 100000 in
set_option maxHeartbeats 4000000 in
theorem R330_654 {d : Nat} {x3 : Int32} {h : TH} {C : Int32 → TH → Prop} {X18 : Int32 × TH → Prop} (k18 : ∀ s : Int32 × TH, X18 s → Lay (s.2) → xEk (d + 9) 330 (18, [(0, .ref 1000000), (1, .ref 0), (2, .ref 197), (3, .int (s.1))], [], (TH.X (s.2))) (postI C)) (hL : Lay h) (hW : B330_654 x3 h C X18) : xEk (d + 9) 330 (654, [(0, .ref 1000000), (1, .ref 0), (2, .ref 197), (3, .int x3)], [], h.X) (postI C) := by
  unfold B330_654 at hW
  iterate 5 (refine kst rfl rfl ?_)
  obtain ⟨q2, hW⟩ := hW
  refine wald rfl (Or.inr (sK hL)) rfl (sN hL) q2 ?_
  refine wcvI rfl (oK11 hL rfl) rfl rfl (R164 (d := d + 7) (h := h) hL hW) (fun v1 h2 hL hW => ?_)
  iterate 5 (refine kst rfl rfl ?_)
  obtain ⟨q3, hW⟩ := hW
  refine wald rfl (Or.inr (sK hL)) rfl (sN hL) q3 ?_
  refine wcvI rfl (oK12 hL rfl) rfl rfl (R260 (d := d + 7) (h := h2) hL hW) (fun v3 h4 hL hW => ?_)
  refine wcm_eq rfl hW (fun hW => ?_) (fun hW => ?_)
  · iterate 2 (refine kst rfl rfl ?_)
    have z9 := k18 ((x3 + 6), h4) hW hL
    refine wjp ?_ z9
    exact ⟨rfl, rfl, rfl, rfl, trivial⟩
  · refine kst rfl rfl ?_
    refine kre rfl rfl ?_
    exact ⟨_, _, rfl, hL, hW⟩
set_option maxRecDepth 100000 in
set_option maxHeartbeats 4000000 in
theorem R330_677 {d : Nat} {x3 : Int32} {h : TH} {C : Int32 → TH → Prop} {X18 : Int32 × TH → Prop} (k18 : ∀ s : Int32 × TH, X18 s → Lay (s.2) → xEk (d + 9) 330 (18, [(0, .ref 1000000), (1, .ref 0), (2, .ref 197), (3, .int (s.1))], [], (TH.X (s.2))) (postI C)) (hL : Lay h) (hW : B330_677 x3 h C X18) : xEk (d + 9) 330 (677, [(0, .ref 1000000), (1, .ref 0), (2, .ref 197), (3, .int x3)], [], h.X) (postI C) := by
  unfold B330_677 at hW
  iterate 5 (refine kst rfl rfl ?_)
  obtain ⟨q2, hW⟩ := hW
  refine wald rfl (Or.inr (sK hL)) rfl (sN hL) q2 ?_
  refine wcvI rfl (oK11 hL rfl) rfl rfl (R165 (d := d + 6) (h := h) hL hW) (fun v1 h2 hL hW => ?_)
  iterate 5 (refine kst rfl rfl ?_)
  obtain ⟨q3, hW⟩ := hW
  refine wald rfl (Or.inr (sK hL)) rfl (sN hL) q3 ?_
  refine wcvI rfl (oK12 hL rfl) rfl rfl (R264 (d := d + 6) (h := h2) hL hW) (fun v3 h4 hL hW => ?_)
  refine wcm_eq rfl hW (fun hW => ?_) (fun hW => ?_)
  · iterate 2 (refine kst rfl rfl ?_)
    have z9 := k18 ((x3 + 6), h4) hW hL
    refine wjp ?_ z9
    exact ⟨rfl, rfl, rfl, rfl, trivial⟩
  · refine kst rfl rfl ?_
    refine kre rfl rfl ?_
    exact ⟨_, _, rfl, hL, hW⟩
set_option maxRecDepth 100000 in
set_option maxHeartbeats 4000000 in
theorem R330_700 {d : Nat} {x3 : Int32} {h : TH} {C : Int32 → TH → Prop} {X18 : Int32 × TH → Prop} (k18 : ∀ s : Int32 × TH, X18 s → Lay (s.2) → xEk (d + 9) 330 (18, [(0, .ref 1000000), (1, .ref 0), (2, .ref 197), (3, .int (s.1))], [], (TH.X (s.2))) (postI C)) (hL : Lay h) (hW : B330_700 x3 h C X18) : xEk (d + 9) 330 (700, [(0, .ref 1000000), (1, .ref 0), (2, .ref 197), (3, .int x3)], [], h.X) (postI C) := by
  unfold B330_700 at hW
  iterate 5 (refine kst rfl rfl ?_)
  obtain ⟨q2, hW⟩ := hW
  refine wald rfl (Or.inr (sK hL)) rfl (sN hL) q2 ?_
  refine wcvI rfl (oK11 hL rfl) rfl rfl (R166 (d := d + 7) (h := h) hL hW) (fun v1 h2 hL hW => ?_)
  iterate 5 (refine kst rfl rfl ?_)
  obtain ⟨q3, hW⟩ := hW
  refine wald rfl (Or.inr (sK hL)) rfl (sN hL) q3 ?_
  refine wcvI rfl (oK12 hL rfl) rfl rfl (R266 (d := d + 4) (h := h2) hL hW) (fun v3 h4 hL hW => ?_)
  refine wcm_eq rfl hW (fun hW => ?_) (fun hW => ?_)
  · iterate 2 (refine kst rfl rfl ?_)
    have z9 := k18 ((x3 + 6), h4) hW hL
    refine wjp ?_ z9
    exact ⟨rfl, rfl, rfl, rfl, trivial⟩
  · refine kst rfl rfl ?_
    refine kre rfl rfl ?_
    exact ⟨_, _, rfl, hL, hW⟩
set_option maxRecDepth 100000 in
set_option maxHeartbeats 4000000 in
theorem R330_723 {d : Nat} {x3 : Int32} {h : TH} {C : Int32 → TH → Prop} {X18 : Int32 × TH → Prop} (k18 : ∀ s : Int32 × TH, X18 s → Lay (s.2) → xEk (d + 9) 330 (18, [(0, .ref 1000000), (1, .ref 0), (2, .ref 197), (3, .int (s.1))], [], (TH.X (s.2))) (postI C)) (hL : Lay h) (hW : B330_723 x3 h C X18) : xEk (d + 9) 330 (723, [(0, .ref 1000000), (1, .ref 0), (2, .ref 197), (3, .int x3)], [], h.X) (postI C) := by
  unfold B330_723 at hW
  iterate 5 (refine kst rfl rfl ?_)
  obtain ⟨q2, hW⟩ := hW
  refine wald rfl (Or.inr (sK hL)) rfl (sN hL) q2 ?_
  refine wcvI rfl (oK11 hL rfl) rfl rfl (R167 (d := d + 5) (h := h) hL hW) (fun v1 h2 hL hW => ?_)
  iterate 5 (refine kst rfl rfl ?_)
  obtain ⟨q3, hW⟩ := hW
  refine wald rfl (Or.inr (sK hL)) rfl (sN hL) q3 ?_
  refine wcvI rfl (oK12 hL rfl) rfl rfl (R277 (d := d + 3) (h := h2) hL hW) (fun v3 h4 hL hW => ?_)
  refine wcm_eq rfl hW (fun hW => ?_) (fun hW => ?_)
  · iterate 2 (refine kst rfl rfl ?_)
    have z9 := k18 ((x3 + 6), h4) hW hL
    refine wjp ?_ z9
    exact ⟨rfl, rfl, rfl, rfl, trivial⟩
  · refine kst rfl rfl ?_
    refine kre rfl rfl ?_
    exact ⟨_, _, rfl, hL, hW⟩
set_option maxRecDepth 100000 in
set_option maxHeartbeats 4000000 in
theorem R330_746 {d : Nat} {x3 : Int32} {h : TH} {C : Int32 → TH → Prop} {X18 : Int32 × TH → Prop} (k18 : ∀ s : Int32 × TH, X18 s → Lay (s.2) → xEk (d + 9) 330 (18, [(0, .ref 1000000), (1, .ref 0), (2, .ref 197), (3, .int (s.1))], [], (TH.X (s.2))) (postI C)) (hL : Lay h) (hW : B330_746 x3 h C X18) : xEk (d + 9) 330 (746, [(0, .ref 1000000), (1, .ref 0), (2, .ref 197), (3, .int x3)], [], h.X) (postI C) := by
  unfold B330_746 at hW
  iterate 5 (refine kst rfl rfl ?_)
  obtain ⟨q2, hW⟩ := hW
  refine wald rfl (Or.inr (sK hL)) rfl (sN hL) q2 ?_
  iterate 4 (refine kst rfl rfl ?_)
  obtain ⟨q3, hW⟩ := hW
  refine wald rfl (Or.inr (sK hL)) rfl (sN hL) q3 ?_
  refine wcvI rfl (oK11 hL rfl) rfl rfl (R168 (d := d + 5) (h := h) hL hW) (fun v1 h2 hL hW => ?_)
  iterate 5 (refine kst rfl rfl ?_)
  obtain ⟨q4, hW⟩ := hW
  refine wald rfl (Or.inr (sK hL)) rfl (sN hL) q4 ?_
  iterate 4 (refine kst rfl rfl ?_)
  obtain ⟨q5, hW⟩ := hW
  refine wald rfl (Or.inr (sK hL)) rfl (sN hL) q5 ?_
  refine wcvI rfl (oK12 hL rfl) rfl rfl (R278 (d := d + 4) (h := h2) hL hW) (fun v3 h4 hL hW => ?_)
  refine wcm_eq rfl hW (fun hW => ?_) (fun hW => ?_)
  · iterate 2 (refine kst rfl rfl ?_)
    have z9 := k18 ((x3 + 6), h4) hW hL
    refine wjp ?_ z9
    exact ⟨rfl, rfl, rfl, rfl, trivial⟩
  · refine kst rfl rfl ?_
    refine kre rfl rfl ?_
    exact ⟨_, _, rfl, hL, hW⟩
set_option maxRecDepth 100000 in
set_option maxHeartbeats 4000000 in
theorem R330_779 {d : Nat} {x3 : Int32} {h : TH} {C : Int32 → TH → Prop} {X18 : Int32 × TH → Prop} (k18 : ∀ s : Int32 × TH, X18 s → Lay (s.2) → xEk (d + 9) 330 (18, [(0, .ref 1000000), (1, .ref 0), (2, .ref 197), (3, .int (s.1))], [], (TH.X (s.2))) (postI C)) (hL : Lay h) (hW : B330_779 x3 h C X18) : xEk (d + 9) 330 (779, [(0, .ref 1000000), (1, .ref 0), (2, .ref 197), (3, .int x3)], [], h.X) (postI C) := by
  unfold B330_779 at hW
  iterate 5 (refine kst rfl rfl ?_)
  obtain ⟨q2, hW⟩ := hW
  refine wald rfl (Or.inr (sK hL)) rfl (sN hL) q2 ?_
  refine wcvI rfl (oK11 hL rfl) rfl rfl (R169 (d := d + 5) (h := h) hL hW) (fun v1 h2 hL hW => ?_)
  iterate 5 (refine kst rfl rfl ?_)
  obtain ⟨q3, hW⟩ := hW
  refine wald rfl (Or.inr (sK hL)) rfl (sN hL) q3 ?_
  refine wcvI rfl (oK12 hL rfl) rfl rfl (R279 (d := d + 5) (h := h2) hL hW) (fun v3 h4 hL hW => ?_)
  refine wcm_eq rfl hW (fun hW => ?_) (fun hW => ?_)
  · iterate 2 (refine kst rfl rfl ?_)
    have z9 := k18 ((x3 + 6), h4) hW hL
    refine wjp ?_ z9
    exact ⟨rfl, rfl, rfl, rfl, trivial⟩
  · refine kst rfl rfl ?_
    refine kre rfl rfl ?_
    exact ⟨_, _, rfl, hL, hW⟩
set_option maxRecDepth 100000 in
set_option maxHeartbeats 4000000 in
theorem R330_802 {d : Nat} {x3 : Int32} {h : TH} {C : Int32 → TH → Prop} {X18 : Int32 × TH → Prop} (k18 : ∀ s : Int32 × TH, X18 s → Lay (s.2) → xEk (d + 9) 330 (18, [(0, .ref 1000000), (1, .ref 0), (2, .ref 197), (3, .int (s.1))], [], (TH.X (s.2))) (postI C)) (hL : Lay h) (hW : B330_802 x3 h C X18) : xEk (d + 9) 330 (802, [(0, .ref 1000000), (1, .ref 0), (2, .ref 197), (3, .int x3)], [], h.X) (postI C) := by
  unfold B330_802 at hW
  iterate 5 (refine kst rfl rfl ?_)
  obtain ⟨q2, hW⟩ := hW
  refine wald rfl (Or.inr (sK hL)) rfl (sN hL) q2 ?_
  refine wcvI rfl (oK11 hL rfl) rfl rfl (R170 (d := d + 5) (h := h) hL hW) (fun v1 h2 hL hW => ?_)
  iterate 5 (refine kst rfl rfl ?_)
  obtain ⟨q3, hW⟩ := hW
  refine wald rfl (Or.inr (sK hL)) rfl (sN hL) q3 ?_
  refine wcvI rfl (oK12 hL rfl) rfl rfl (R280 (d := d + 5) (h := h2) hL hW) (fun v3 h4 hL hW => ?_)
  refine wcm_eq rfl hW (fun hW => ?_) (fun hW => ?_)
  · iterate 2 (refine kst rfl rfl ?_)
    have z9 := k18 ((x3 + 6), h4) hW hL
    refine wjp ?_ z9
    exact ⟨rfl, rfl, rfl, rfl, trivial⟩
  · refine kst rfl rfl ?_
    refine kre rfl rfl ?_
    exact ⟨_, _, rfl, hL, hW⟩
set_option maxRecDepth 100000 in
set_option maxHeartbeats 4000000 in
theorem R330_825 {d : Nat} {x3 : Int32} {h : TH} {C : Int32 → TH → Prop} {X18 : Int32 × TH → Prop} (k18 : ∀ s : Int32 × TH, X18 s → Lay (s.2) → xEk (d + 9) 330 (18, [(0, .ref 1000000), (1, .ref 0), (2, .ref 197), (3, .int (s.1))], [], (TH.X (s.2))) (postI C)) (hL : Lay h) (hW : B330_825 x3 h C X18) : xEk (d + 9) 330 (825, [(0, .ref 1000000), (1, .ref 0), (2, .ref 197), (3, .int x3)], [], h.X) (postI C) := by
  unfold B330_825 at hW
  iterate 5 (refine kst rfl rfl ?_)
  obtain ⟨q2, hW⟩ := hW
  refine wald rfl (Or.inr (sK hL)) rfl (sN hL) q2 ?_
  refine wcvI rfl (oK11 hL rfl) rfl rfl (R171 (d := d + 5) (h := h) hL hW) (fun v1 h2 hL hW => ?_)
  iterate 5 (refine kst rfl rfl ?_)
  obtain ⟨q3, hW⟩ := hW
  refine wald rfl (Or.inr (sK hL)) rfl (sN hL) q3 ?_
  refine wcvI rfl (oK12 hL rfl) rfl rfl (R281 (d := d + 5) (h := h2) hL hW) (fun v3 h4 hL hW => ?_)
  refine wcm_eq rfl hW (fun hW => ?_) (fun hW => ?_)
  · iterate 2 (refine kst rfl rfl ?_)
    have z9 := k18 ((x3 + 6), h4) hW hL
    refine wjp ?_ z9
    exact ⟨rfl, rfl, rfl, rfl, trivial⟩
  · refine kst rfl rfl ?_
    refine kre rfl rfl ?_
    exact ⟨_, _, rfl, hL, hW⟩
set_option maxRecDepth 100000 in
set_option maxHeartbeats 4000000 in
theorem R330_848 {d : Nat} {x3 : Int32} {h : TH} {C : Int32 → TH → Prop} {X18 : Int32 × TH → Prop} (k18 : ∀ s : Int32 × TH, X18 s → Lay (s.2) → xEk (d + 9) 330 (18, [(0, .ref 1000000), (1, .ref 0), (2, .ref 197), (3, .int (s.1))], [], (TH.X (s.2))) (postI C)) (hL : Lay h) (hW : B330_848 x3 h C X18) : xEk (d + 9) 330 (848, [(0, .ref 1000000), (1, .ref 0), (2, .ref 197), (3, .int x3)], [], h.X) (postI C) := by
  unfold B330_848 at hW
  iterate 5 (refine kst rfl rfl ?_)
  obtain ⟨q2, hW⟩ := hW
  refine wald rfl (Or.inr (sK hL)) rfl (sN hL) q2 ?_
  refine wcvI rfl (oK11 hL rfl) rfl rfl (R172 (d := d + 7) (h := h) hL hW) (fun v1 h2 hL hW => ?_)
  iterate 5 (refine kst rfl rfl ?_)
  obtain ⟨q3, hW⟩ := hW
  refine wald rfl (Or.inr (sK hL)) rfl (sN hL) q3 ?_
  refine wcvI rfl (oK12 hL rfl) rfl rfl (R282 (d := d + 7) (h := h2) hL hW) (fun v3 h4 hL hW => ?_)
  refine wcm_eq rfl hW (fun hW => ?_) (fun hW => ?_)
  · iterate 2 (refine kst rfl rfl ?_)
    have z9 := k18 ((x3 + 6), h4) hW hL
    refine wjp ?_ z9
    exact ⟨rfl, rfl, rfl, rfl, trivial⟩
  · refine kst rfl rfl ?_
    refine kre rfl rfl ?_
    exact ⟨_, _, rfl, hL, hW⟩
set_option maxRecDepth 100000 in
set_option maxHeartbeats 4000000 in
theorem R330_871 {d : Nat} {x3 : Int32} {h : TH} {C : Int32 → TH → Prop} {X18 : Int32 × TH → Prop} (k18 : ∀ s : Int32 × TH, X18 s → Lay (s.2) → xEk (d + 9) 330 (18, [(0, .ref 1000000), (1, .ref 0), (2, .ref 197), (3, .int (s.1))], [], (TH.X (s.2))) (postI C)) (hL : Lay h) (hW : B330_871 x3 h C X18) : xEk (d + 9) 330 (871, [(0, .ref 1000000), (1, .ref 0), (2, .ref 197), (3, .int x3)], [], h.X) (postI C) := by
  unfold B330_871 at hW
  refine kst rfl rfl ?_
  refine wcvI rfl (oK11 hL rfl) rfl rfl (R173 (d := d + 7) (h := h) hL hW) (fun v1 h2 hL hW => ?_)
  refine kst rfl rfl ?_
  refine wcvI rfl (oK12 hL rfl) rfl rfl (R283 (d := d + 7) (h := h2) hL hW) (fun v3 h4 hL hW => ?_)
  refine wcm_eq rfl hW (fun hW => ?_) (fun hW => ?_)
  · iterate 2 (refine kst rfl rfl ?_)
    have z9 := k18 ((x3 + 6), h4) hW hL
    refine wjp ?_ z9
    exact ⟨rfl, rfl, rfl, rfl, trivial⟩
  · refine kst rfl rfl ?_
    refine kre rfl rfl ?_
    exact ⟨_, _, rfl, hL, hW⟩
set_option maxRecDepth 100000 in
set_option maxHeartbeats 4000000 in
theorem R330_884 {d : Nat} {x3 : Int32} {h : TH} {C : Int32 → TH → Prop} {X18 : Int32 × TH → Prop} (k18 : ∀ s : Int32 × TH, X18 s → Lay (s.2) → xEk (d + 9) 330 (18, [(0, .ref 1000000), (1, .ref 0), (2, .ref 197), (3, .int (s.1))], [], (TH.X (s.2))) (postI C)) (hL : Lay h) (hW : B330_884 x3 h C X18) : xEk (d + 9) 330 (884, [(0, .ref 1000000), (1, .ref 0), (2, .ref 197), (3, .int x3)], [], h.X) (postI C) := by
  unfold B330_884 at hW
  iterate 5 (refine kst rfl rfl ?_)
  obtain ⟨q2, hW⟩ := hW
  refine wald rfl (Or.inr (sK hL)) rfl (sN hL) q2 ?_
  refine wcvI rfl (oK11 hL rfl) rfl rfl (R174 (d := d + 1) (h := h) hL hW) (fun v1 h2 hL hW => ?_)
  iterate 5 (refine kst rfl rfl ?_)
  obtain ⟨q3, hW⟩ := hW
  refine wald rfl (Or.inr (sK hL)) rfl (sN hL) q3 ?_
  refine wcvI rfl (oK12 hL rfl) rfl rfl (R289 (d := d + 1) (h := h2) hL hW) (fun v3 h4 hL hW => ?_)
  refine wcm_eq rfl hW (fun hW => ?_) (fun hW => ?_)
  · iterate 2 (refine kst rfl rfl ?_)
    have z9 := k18 ((x3 + 6), h4) hW hL
    refine wjp ?_ z9
    exact ⟨rfl, rfl, rfl, rfl, trivial⟩
  · refine kst rfl rfl ?_
    refine kre rfl rfl ?_
    exact ⟨_, _, rfl, hL, hW⟩
set_option maxRecDepth 100000 in
set_option maxHeartbeats 4000000 in
theorem R330_907 {d : Nat} {x3 : Int32} {h : TH} {C : Int32 → TH → Prop} {X18 : Int32 × TH → Prop} (k18 : ∀ s : Int32 × TH, X18 s → Lay (s.2) → xEk (d + 9) 330 (18, [(0, .ref 1000000), (1, .ref 0), (2, .ref 197), (3, .int (s.1))], [], (TH.X (s.2))) (postI C)) (hL : Lay h) (hW : B330_907 x3 h C X18) : xEk (d + 9) 330 (907, [(0, .ref 1000000), (1, .ref 0), (2, .ref 197), (3, .int x3)], [], h.X) (postI C) := by
  unfold B330_907 at hW
  iterate 5 (refine kst rfl rfl ?_)
  obtain ⟨q2, hW⟩ := hW
  refine wald rfl (Or.inr (sK hL)) rfl (sN hL) q2 ?_
  refine wcvI rfl (oK11 hL rfl) rfl rfl (R175 (d := d + 2) (h := h) hL hW) (fun v1 h2 hL hW => ?_)
  iterate 5 (refine kst rfl rfl ?_)
  obtain ⟨q3, hW⟩ := hW
  refine wald rfl (Or.inr (sK hL)) rfl (sN hL) q3 ?_
  refine wcvI rfl (oK12 hL rfl) rfl rfl (R290 (d := d + 2) (h := h2) hL hW) (fun v3 h4 hL hW => ?_)
  refine wcm_eq rfl hW (fun hW => ?_) (fun hW => ?_)
  · iterate 2 (refine kst rfl rfl ?_)
    have z9 := k18 ((x3 + 6), h4) hW hL
    refine wjp ?_ z9
    exact ⟨rfl, rfl, rfl, rfl, trivial⟩
  · refine kst rfl rfl ?_
    refine kre rfl rfl ?_
    exact ⟨_, _, rfl, hL, hW⟩
set_option maxRecDepth 100000 in
set_option maxHeartbeats 4000000 in
theorem R330_930 {d : Nat} {x3 : Int32} {h : TH} {C : Int32 → TH → Prop} {X18 : Int32 × TH → Prop} (k18 : ∀ s : Int32 × TH, X18 s → Lay (s.2) → xEk (d + 9) 330 (18, [(0, .ref 1000000), (1, .ref 0), (2, .ref 197), (3, .int (s.1))], [], (TH.X (s.2))) (postI C)) (hL : Lay h) (hW : B330_930 x3 h C X18) : xEk (d + 9) 330 (930, [(0, .ref 1000000), (1, .ref 0), (2, .ref 197), (3, .int x3)], [], h.X) (postI C) := by
  unfold B330_930 at hW
  iterate 5 (refine kst rfl rfl ?_)
  obtain ⟨q2, hW⟩ := hW
  refine wald rfl (Or.inr (sK hL)) rfl (sN hL) q2 ?_
  refine wcvI rfl (oK11 hL rfl) rfl rfl (R176 (d := d + 1) (h := h) hL hW) (fun v1 h2 hL hW => ?_)
  iterate 5 (refine kst rfl rfl ?_)
  obtain ⟨q3, hW⟩ := hW
  refine wald rfl (Or.inr (sK hL)) rfl (sN hL) q3 ?_
  refine wcvI rfl (oK12 hL rfl) rfl rfl (R293 (d := d + 1) (h := h2) hL hW) (fun v3 h4 hL hW => ?_)
  refine wcm_eq rfl hW (fun hW => ?_) (fun hW => ?_)
  · iterate 2 (refine kst rfl rfl ?_)
    have z9 := k18 ((x3 + 6), h4) hW hL
    refine wjp ?_ z9
    exact ⟨rfl, rfl, rfl, rfl, trivial⟩
  · refine kst rfl rfl ?_
    refine kre rfl rfl ?_
    exact ⟨_, _, rfl, hL, hW⟩
set_option maxRecDepth 100000 in
set_option maxHeartbeats 4000000 in
theorem R330_953 {d : Nat} {x3 : Int32} {h : TH} {C : Int32 → TH → Prop} {X18 : Int32 × TH → Prop} (k18 : ∀ s : Int32 × TH, X18 s → Lay (s.2) → xEk (d + 9) 330 (18, [(0, .ref 1000000), (1, .ref 0), (2, .ref 197), (3, .int (s.1))], [], (TH.X (s.2))) (postI C)) (hL : Lay h) (hW : B330_953 x3 h C X18) : xEk (d + 9) 330 (953, [(0, .ref 1000000), (1, .ref 0), (2, .ref 197), (3, .int x3)], [], h.X) (postI C) := by
  unfold B330_953 at hW
  iterate 5 (refine kst rfl rfl ?_)
  obtain ⟨q2, hW⟩ := hW
  refine wald rfl (Or.inr (sK hL)) rfl (sN hL) q2 ?_
  iterate 4 (refine kst rfl rfl ?_)
  obtain ⟨q3, hW⟩ := hW
  refine wald rfl (Or.inr (sK hL)) rfl (sN hL) q3 ?_
  refine wcvI rfl (oK11 hL rfl) rfl rfl (R177 (d := d + 6) (h := h) hL hW) (fun v1 h2 hL hW => ?_)
  iterate 5 (refine kst rfl rfl ?_)
  obtain ⟨q4, hW⟩ := hW
  refine wald rfl (Or.inr (sK hL)) rfl (sN hL) q4 ?_
  iterate 4 (refine kst rfl rfl ?_)
  obtain ⟨q5, hW⟩ := hW
  refine wald rfl (Or.inr (sK hL)) rfl (sN hL) q5 ?_
  refine wcvI rfl (oK12 hL rfl) rfl rfl (R294 (d := d + 6) (h := h2) hL hW) (fun v3 h4 hL hW => ?_)
  refine wcm_eq rfl hW (fun hW => ?_) (fun hW => ?_)
  · iterate 2 (refine kst rfl rfl ?_)
    have z9 := k18 ((x3 + 6), h4) hW hL
    refine wjp ?_ z9
    exact ⟨rfl, rfl, rfl, rfl, trivial⟩
  · refine kst rfl rfl ?_
    refine kre rfl rfl ?_
    exact ⟨_, _, rfl, hL, hW⟩
set_option maxRecDepth 100000 in
set_option maxHeartbeats 4000000 in
theorem R330_986 {d : Nat} {x3 : Int32} {h : TH} {C : Int32 → TH → Prop} {X18 : Int32 × TH → Prop} (k18 : ∀ s : Int32 × TH, X18 s → Lay (s.2) → xEk (d + 9) 330 (18, [(0, .ref 1000000), (1, .ref 0), (2, .ref 197), (3, .int (s.1))], [], (TH.X (s.2))) (postI C)) (hL : Lay h) (hW : B330_986 x3 h C X18) : xEk (d + 9) 330 (986, [(0, .ref 1000000), (1, .ref 0), (2, .ref 197), (3, .int x3)], [], h.X) (postI C) := by
  unfold B330_986 at hW
  iterate 5 (refine kst rfl rfl ?_)
  obtain ⟨q2, hW⟩ := hW
  refine wald rfl (Or.inr (sK hL)) rfl (sN hL) q2 ?_
  refine wcvI rfl (oK11 hL rfl) rfl rfl (R178 (d := d + 2) (h := h) hL hW) (fun v1 h2 hL hW => ?_)
  iterate 5 (refine kst rfl rfl ?_)
  obtain ⟨q3, hW⟩ := hW
  refine wald rfl (Or.inr (sK hL)) rfl (sN hL) q3 ?_
  refine wcvI rfl (oK12 hL rfl) rfl rfl (R297 (d := d + 3) (h := h2) hL hW) (fun v3 h4 hL hW => ?_)
  refine wcm_eq rfl hW (fun hW => ?_) (fun hW => ?_)
  · iterate 2 (refine kst rfl rfl ?_)
    have z9 := k18 ((x3 + 6), h4) hW hL
    refine wjp ?_ z9
    exact ⟨rfl, rfl, rfl, rfl, trivial⟩
  · refine kst rfl rfl ?_
    refine kre rfl rfl ?_
    exact ⟨_, _, rfl, hL, hW⟩
set_option maxRecDepth 100000 in
set_option maxHeartbeats 4000000 in
theorem R330_1009 {d : Nat} {x3 : Int32} {h : TH} {C : Int32 → TH → Prop} {X18 : Int32 × TH → Prop} (k18 : ∀ s : Int32 × TH, X18 s → Lay (s.2) → xEk (d + 9) 330 (18, [(0, .ref 1000000), (1, .ref 0), (2, .ref 197), (3, .int (s.1))], [], (TH.X (s.2))) (postI C)) (hL : Lay h) (hW : B330_1009 x3 h C X18) : xEk (d + 9) 330 (1009, [(0, .ref 1000000), (1, .ref 0), (2, .ref 197), (3, .int x3)], [], h.X) (postI C) := by
  unfold B330_1009 at hW
  iterate 5 (refine kst rfl rfl ?_)
  obtain ⟨q2, hW⟩ := hW
  refine wald rfl (Or.inr (sK hL)) rfl (sN hL) q2 ?_
  iterate 4 (refine kst rfl rfl ?_)
  obtain ⟨q3, hW⟩ := hW
  refine wald rfl (Or.inr (sK hL)) rfl (sN hL) q3 ?_
  refine wcvI rfl (oK11 hL rfl) rfl rfl (R179 (d := d + 1) (h := h) hL hW) (fun v1 h2 hL hW => ?_)
  iterate 5 (refine kst rfl rfl ?_)
  obtain ⟨q4, hW⟩ := hW
  refine wald rfl (Or.inr (sK hL)) rfl (sN hL) q4 ?_
  iterate 4 (refine kst rfl rfl ?_)
  obtain ⟨q5, hW⟩ := hW
  refine wald rfl (Or.inr (sK hL)) rfl (sN hL) q5 ?_
  refine wcvI rfl (oK12 hL rfl) rfl rfl (R298 (d := d + 1) (h := h2) hL hW) (fun v3 h4 hL hW => ?_)
  refine wcm_eq rfl hW (fun hW => ?_) (fun hW => ?_)
  · iterate 2 (refine kst rfl rfl ?_)
    have z9 := k18 ((x3 + 6), h4) hW hL
    refine wjp ?_ z9
    exact ⟨rfl, rfl, rfl, rfl, trivial⟩
  · refine kst rfl rfl ?_
    refine kre rfl rfl ?_
    exact ⟨_, _, rfl, hL, hW⟩
set_option maxRecDepth 100000 in
set_option maxHeartbeats 4000000 in
theorem R330_1042 {d : Nat} {x3 : Int32} {h : TH} {C : Int32 → TH → Prop} {X18 : Int32 × TH → Prop} (k18 : ∀ s : Int32 × TH, X18 s → Lay (s.2) → xEk (d + 9) 330 (18, [(0, .ref 1000000), (1, .ref 0), (2, .ref 197), (3, .int (s.1))], [], (TH.X (s.2))) (postI C)) (hL : Lay h) (hW : B330_1042 x3 h C X18) : xEk (d + 9) 330 (1042, [(0, .ref 1000000), (1, .ref 0), (2, .ref 197), (3, .int x3)], [], h.X) (postI C) := by
  unfold B330_1042 at hW
  iterate 5 (refine kst rfl rfl ?_)
  obtain ⟨q2, hW⟩ := hW
  refine wald rfl (Or.inr (sK hL)) rfl (sN hL) q2 ?_
  refine wcvI rfl (oK11 hL rfl) rfl rfl (R180 (d := d + 2) (h := h) hL hW) (fun v1 h2 hL hW => ?_)
  iterate 5 (refine kst rfl rfl ?_)
  obtain ⟨q3, hW⟩ := hW
  refine wald rfl (Or.inr (sK hL)) rfl (sN hL) q3 ?_
  refine wcvI rfl (oK12 hL rfl) rfl rfl (R303 (d := d + 3) (h := h2) hL hW) (fun v3 h4 hL hW => ?_)
  refine wcm_eq rfl hW (fun hW => ?_) (fun hW => ?_)
  · iterate 2 (refine kst rfl rfl ?_)
    have z9 := k18 ((x3 + 6), h4) hW hL
    refine wjp ?_ z9
    exact ⟨rfl, rfl, rfl, rfl, trivial⟩
  · refine kst rfl rfl ?_
    refine kre rfl rfl ?_
    exact ⟨_, _, rfl, hL, hW⟩
set_option maxRecDepth 100000 in
set_option maxHeartbeats 4000000 in
theorem R330_1065 {d : Nat} {x3 : Int32} {h : TH} {C : Int32 → TH → Prop} {X18 : Int32 × TH → Prop} (k18 : ∀ s : Int32 × TH, X18 s → Lay (s.2) → xEk (d + 9) 330 (18, [(0, .ref 1000000), (1, .ref 0), (2, .ref 197), (3, .int (s.1))], [], (TH.X (s.2))) (postI C)) (hL : Lay h) (hW : B330_1065 x3 h C X18) : xEk (d + 9) 330 (1065, [(0, .ref 1000000), (1, .ref 0), (2, .ref 197), (3, .int x3)], [], h.X) (postI C) := by
  unfold B330_1065 at hW
  iterate 5 (refine kst rfl rfl ?_)
  obtain ⟨q2, hW⟩ := hW
  refine wald rfl (Or.inr (sK hL)) rfl (sN hL) q2 ?_
  refine wcvI rfl (oK11 hL rfl) rfl rfl (R181 (d := d + 5) (h := h) hL hW) (fun v1 h2 hL hW => ?_)
  iterate 5 (refine kst rfl rfl ?_)
  obtain ⟨q3, hW⟩ := hW
  refine wald rfl (Or.inr (sK hL)) rfl (sN hL) q3 ?_
  refine wcvI rfl (oK12 hL rfl) rfl rfl (R305 (d := d + 4) (h := h2) hL hW) (fun v3 h4 hL hW => ?_)
  refine wcm_eq rfl hW (fun hW => ?_) (fun hW => ?_)
  · iterate 2 (refine kst rfl rfl ?_)
    have z9 := k18 ((x3 + 6), h4) hW hL
    refine wjp ?_ z9
    exact ⟨rfl, rfl, rfl, rfl, trivial⟩
  · refine kst rfl rfl ?_
    refine kre rfl rfl ?_
    exact ⟨_, _, rfl, hL, hW⟩
set_option maxRecDepth 100000 in
set_option maxHeartbeats 4000000 in
theorem R330_1088 {d : Nat} {x3 : Int32} {h : TH} {C : Int32 → TH → Prop} {X18 : Int32 × TH → Prop} (k18 : ∀ s : Int32 × TH, X18 s → Lay (s.2) → xEk (d + 9) 330 (18, [(0, .ref 1000000), (1, .ref 0), (2, .ref 197), (3, .int (s.1))], [], (TH.X (s.2))) (postI C)) (hL : Lay h) (hW : B330_1088 x3 h C X18) : xEk (d + 9) 330 (1088, [(0, .ref 1000000), (1, .ref 0), (2, .ref 197), (3, .int x3)], [], h.X) (postI C) := by
  unfold B330_1088 at hW
  iterate 5 (refine kst rfl rfl ?_)
  obtain ⟨q2, hW⟩ := hW
  refine wald rfl (Or.inr (sK hL)) rfl (sN hL) q2 ?_
  refine wcvI rfl (oK11 hL rfl) rfl rfl (R182 (d := d + 4) (h := h) hL hW) (fun v1 h2 hL hW => ?_)
  iterate 5 (refine kst rfl rfl ?_)
  obtain ⟨q3, hW⟩ := hW
  refine wald rfl (Or.inr (sK hL)) rfl (sN hL) q3 ?_
  refine wcvI rfl (oK12 hL rfl) rfl rfl (R307 (d := d + 4) (h := h2) hL hW) (fun v3 h4 hL hW => ?_)
  refine wcm_eq rfl hW (fun hW => ?_) (fun hW => ?_)
  · iterate 2 (refine kst rfl rfl ?_)
    have z9 := k18 ((x3 + 6), h4) hW hL
    refine wjp ?_ z9
    exact ⟨rfl, rfl, rfl, rfl, trivial⟩
  · refine kst rfl rfl ?_
    refine kre rfl rfl ?_
    exact ⟨_, _, rfl, hL, hW⟩
set_option maxRecDepth 100000 in
set_option maxHeartbeats 4000000 in
theorem R330_1111 {d : Nat} {x3 : Int32} {h : TH} {C : Int32 → TH → Prop} {X18 : Int32 × TH → Prop} (k18 : ∀ s : Int32 × TH, X18 s → Lay (s.2) → xEk (d + 9) 330 (18, [(0, .ref 1000000), (1, .ref 0), (2, .ref 197), (3, .int (s.1))], [], (TH.X (s.2))) (postI C)) (hL : Lay h) (hW : B330_1111 x3 h C X18) : xEk (d + 9) 330 (1111, [(0, .ref 1000000), (1, .ref 0), (2, .ref 197), (3, .int x3)], [], h.X) (postI C) := by
  unfold B330_1111 at hW
  iterate 5 (refine kst rfl rfl ?_)
  obtain ⟨q2, hW⟩ := hW
  refine wald rfl (Or.inr (sK hL)) rfl (sN hL) q2 ?_
  iterate 4 (refine kst rfl rfl ?_)
  obtain ⟨q3, hW⟩ := hW
  refine wald rfl (Or.inr (sK hL)) rfl (sN hL) q3 ?_
  refine wcvI rfl (oK11 hL rfl) rfl rfl (R183 (d := d + 0) (h := h) hL hW) (fun v1 h2 hL hW => ?_)
  iterate 5 (refine kst rfl rfl ?_)
  obtain ⟨q4, hW⟩ := hW
  refine wald rfl (Or.inr (sK hL)) rfl (sN hL) q4 ?_
  iterate 4 (refine kst rfl rfl ?_)
  obtain ⟨q5, hW⟩ := hW
  refine wald rfl (Or.inr (sK hL)) rfl (sN hL) q5 ?_
  refine wcvI rfl (oK12 hL rfl) rfl rfl (R309 (d := d + 5) (h := h2) hL hW) (fun v3 h4 hL hW => ?_)
  refine wcm_eq rfl hW (fun hW => ?_) (fun hW => ?_)
  · iterate 2 (refine kst rfl rfl ?_)
    have z9 := k18 ((x3 + 6), h4) hW hL
    refine wjp ?_ z9
    exact ⟨rfl, rfl, rfl, rfl, trivial⟩
  · refine kst rfl rfl ?_
    refine kre rfl rfl ?_
    exact ⟨_, _, rfl, hL, hW⟩
set_option maxRecDepth 100000 in
set_option maxHeartbeats 4000000 in
theorem R330_1144 {d : Nat} {x3 : Int32} {h : TH} {C : Int32 → TH → Prop} {X18 : Int32 × TH → Prop} (k18 : ∀ s : Int32 × TH, X18 s → Lay (s.2) → xEk (d + 9) 330 (18, [(0, .ref 1000000), (1, .ref 0), (2, .ref 197), (3, .int (s.1))], [], (TH.X (s.2))) (postI C)) (hL : Lay h) (hW : B330_1144 x3 h C X18) : xEk (d + 9) 330 (1144, [(0, .ref 1000000), (1, .ref 0), (2, .ref 197), (3, .int x3)], [], h.X) (postI C) := by
  unfold B330_1144 at hW
  iterate 5 (refine kst rfl rfl ?_)
  obtain ⟨q2, hW⟩ := hW
  refine wald rfl (Or.inr (sK hL)) rfl (sN hL) q2 ?_
  iterate 4 (refine kst rfl rfl ?_)
  obtain ⟨q3, hW⟩ := hW
  refine wald rfl (Or.inr (sK hL)) rfl (sN hL) q3 ?_
  refine wcvI rfl (oK11 hL rfl) rfl rfl (R184 (d := d + 1) (h := h) hL hW) (fun v1 h2 hL hW => ?_)
  iterate 5 (refine kst rfl rfl ?_)
  obtain ⟨q4, hW⟩ := hW
  refine wald rfl (Or.inr (sK hL)) rfl (sN hL) q4 ?_
  iterate 4 (refine kst rfl rfl ?_)
  obtain ⟨q5, hW⟩ := hW
  refine wald rfl (Or.inr (sK hL)) rfl (sN hL) q5 ?_
  refine wcvI rfl (oK12 hL rfl) rfl rfl (R310 (d := d + 1) (h := h2) hL hW) (fun v3 h4 hL hW => ?_)
  refine wcm_eq rfl hW (fun hW => ?_) (fun hW => ?_)
  · iterate 2 (refine kst rfl rfl ?_)
    have z9 := k18 ((x3 + 6), h4) hW hL
    refine wjp ?_ z9
    exact ⟨rfl, rfl, rfl, rfl, trivial⟩
  · refine kst rfl rfl ?_
    refine kre rfl rfl ?_
    exact ⟨_, _, rfl, hL, hW⟩
set_option maxRecDepth 100000 in
set_option maxHeartbeats 4000000 in
theorem R330_1177 {d : Nat} {x3 : Int32} {h : TH} {C : Int32 → TH → Prop} {X18 : Int32 × TH → Prop} (k18 : ∀ s : Int32 × TH, X18 s → Lay (s.2) → xEk (d + 9) 330 (18, [(0, .ref 1000000), (1, .ref 0), (2, .ref 197), (3, .int (s.1))], [], (TH.X (s.2))) (postI C)) (hL : Lay h) (hW : B330_1177 x3 h C X18) : xEk (d + 9) 330 (1177, [(0, .ref 1000000), (1, .ref 0), (2, .ref 197), (3, .int x3)], [], h.X) (postI C) := by
  unfold B330_1177 at hW
  iterate 5 (refine kst rfl rfl ?_)
  obtain ⟨q2, hW⟩ := hW
  refine wald rfl (Or.inr (sK hL)) rfl (sN hL) q2 ?_
  refine wcvI rfl (oK11 hL rfl) rfl rfl (R185 (d := d + 1) (h := h) hL hW) (fun v1 h2 hL hW => ?_)
  iterate 5 (refine kst rfl rfl ?_)
  obtain ⟨q3, hW⟩ := hW
  refine wald rfl (Or.inr (sK hL)) rfl (sN hL) q3 ?_
  refine wcvI rfl (oK12 hL rfl) rfl rfl (R311 (d := d + 1) (h := h2) hL hW) (fun v3 h4 hL hW => ?_)
  refine wcm_eq rfl hW (fun hW => ?_) (fun hW => ?_)
  · iterate 2 (refine kst rfl rfl ?_)
    have z9 := k18 ((x3 + 6), h4) hW hL
    refine wjp ?_ z9
    exact ⟨rfl, rfl, rfl, rfl, trivial⟩
  · refine kst rfl rfl ?_
    refine kre rfl rfl ?_
    exact ⟨_, _, rfl, hL, hW⟩
set_option maxRecDepth 100000 in
set_option maxHeartbeats 4000000 in
theorem R330_1200 {d : Nat} {x3 : Int32} {h : TH} {C : Int32 → TH → Prop} {X18 : Int32 × TH → Prop} (k18 : ∀ s : Int32 × TH, X18 s → Lay (s.2) → xEk (d + 9) 330 (18, [(0, .ref 1000000), (1, .ref 0), (2, .ref 197), (3, .int (s.1))], [], (TH.X (s.2))) (postI C)) (hL : Lay h) (hW : B330_1200 x3 h C X18) : xEk (d + 9) 330 (1200, [(0, .ref 1000000), (1, .ref 0), (2, .ref 197), (3, .int x3)], [], h.X) (postI C) := by
  unfold B330_1200 at hW
  iterate 5 (refine kst rfl rfl ?_)
  obtain ⟨q2, hW⟩ := hW
  refine wald rfl (Or.inr (sK hL)) rfl (sN hL) q2 ?_
  refine wcvI rfl (oK11 hL rfl) rfl rfl (R186 (d := d + 2) (h := h) hL hW) (fun v1 h2 hL hW => ?_)
  iterate 5 (refine kst rfl rfl ?_)
  obtain ⟨q3, hW⟩ := hW
  refine wald rfl (Or.inr (sK hL)) rfl (sN hL) q3 ?_
  refine wcvI rfl (oK12 hL rfl) rfl rfl (R319 (d := d + 0) (h := h2) hL hW) (fun v3 h4 hL hW => ?_)
  refine wcm_eq rfl hW (fun hW => ?_) (fun hW => ?_)
  · iterate 2 (refine kst rfl rfl ?_)
    have z9 := k18 ((x3 + 6), h4) hW hL
    refine wjp ?_ z9
    exact ⟨rfl, rfl, rfl, rfl, trivial⟩
  · refine kst rfl rfl ?_
    refine kre rfl rfl ?_
    exact ⟨_, _, rfl, hL, hW⟩
set_option maxRecDepth 100000 in
set_option maxHeartbeats 4000000 in
theorem R330_1223 {d : Nat} {x3 : Int32} {h : TH} {C : Int32 → TH → Prop} {X18 : Int32 × TH → Prop} (k18 : ∀ s : Int32 × TH, X18 s → Lay (s.2) → xEk (d + 9) 330 (18, [(0, .ref 1000000), (1, .ref 0), (2, .ref 197), (3, .int (s.1))], [], (TH.X (s.2))) (postI C)) (hL : Lay h) (hW : B330_1223 x3 h C X18) : xEk (d + 9) 330 (1223, [(0, .ref 1000000), (1, .ref 0), (2, .ref 197), (3, .int x3)], [], h.X) (postI C) := by
  unfold B330_1223 at hW
  iterate 5 (refine kst rfl rfl ?_)
  obtain ⟨q2, hW⟩ := hW
  refine wald rfl (Or.inr (sK hL)) rfl (sN hL) q2 ?_
  refine wcvI rfl (oK11 hL rfl) rfl rfl (R187 (d := d + 7) (h := h) hL hW) (fun v1 h2 hL hW => ?_)
  iterate 5 (refine kst rfl rfl ?_)
  obtain ⟨q3, hW⟩ := hW
  refine wald rfl (Or.inr (sK hL)) rfl (sN hL) q3 ?_
  refine wcvI rfl (oK12 hL rfl) rfl rfl (R320 (d := d + 7) (h := h2) hL hW) (fun v3 h4 hL hW => ?_)
  refine wcm_eq rfl hW (fun hW => ?_) (fun hW => ?_)
  · iterate 2 (refine kst rfl rfl ?_)
    have z9 := k18 ((x3 + 6), h4) hW hL
    refine wjp ?_ z9
    exact ⟨rfl, rfl, rfl, rfl, trivial⟩
  · refine kst rfl rfl ?_
    refine kre rfl rfl ?_
    exact ⟨_, _, rfl, hL, hW⟩
set_option maxRecDepth 100000 in
set_option maxHeartbeats 4000000 in
theorem R330_1246 {d : Nat} {x3 : Int32} {h : TH} {C : Int32 → TH → Prop} {X18 : Int32 × TH → Prop} (k18 : ∀ s : Int32 × TH, X18 s → Lay (s.2) → xEk (d + 9) 330 (18, [(0, .ref 1000000), (1, .ref 0), (2, .ref 197), (3, .int (s.1))], [], (TH.X (s.2))) (postI C)) (hL : Lay h) (hW : B330_1246 x3 h C X18) : xEk (d + 9) 330 (1246, [(0, .ref 1000000), (1, .ref 0), (2, .ref 197), (3, .int x3)], [], h.X) (postI C) := by
  unfold B330_1246 at hW
  refine kst rfl rfl ?_
  refine wcvI rfl (oK11 hL rfl) rfl rfl (R188 (d := d + 2) (h := h) hL hW) (fun v1 h2 hL hW => ?_)
  refine kst rfl rfl ?_
  refine wcvI rfl (oK12 hL rfl) rfl rfl (R321 (d := d + 0) (h := h2) hL hW) (fun v3 h4 hL hW => ?_)
  refine wcm_eq rfl hW (fun hW => ?_) (fun hW => ?_)
  · iterate 2 (refine kst rfl rfl ?_)
    have z9 := k18 ((x3 + 6), h4) hW hL
    refine wjp ?_ z9
    exact ⟨rfl, rfl, rfl, rfl, trivial⟩
  · refine kst rfl rfl ?_
    refine kre rfl rfl ?_
    exact ⟨_, _, rfl, hL, hW⟩
set_option maxRecDepth 100000 in
set_option maxHeartbeats 4000000 in
theorem R330_1259 {d : Nat} {x3 : Int32} {h : TH} {C : Int32 → TH → Prop} {X18 : Int32 × TH → Prop} (k18 : ∀ s : Int32 × TH, X18 s → Lay (s.2) → xEk (d + 9) 330 (18, [(0, .ref 1000000), (1, .ref 0), (2, .ref 197), (3, .int (s.1))], [], (TH.X (s.2))) (postI C)) (hL : Lay h) (hW : B330_1259 x3 h C X18) : xEk (d + 9) 330 (1259, [(0, .ref 1000000), (1, .ref 0), (2, .ref 197), (3, .int x3)], [], h.X) (postI C) := by
  unfold B330_1259 at hW
  iterate 5 (refine kst rfl rfl ?_)
  obtain ⟨q2, hW⟩ := hW
  refine wald rfl (Or.inr (sK hL)) rfl (sN hL) q2 ?_
  iterate 4 (refine kst rfl rfl ?_)
  obtain ⟨q3, hW⟩ := hW
  refine wald rfl (Or.inr (sK hL)) rfl (sN hL) q3 ?_
  iterate 4 (refine kst rfl rfl ?_)
  obtain ⟨q4, hW⟩ := hW
  refine wald rfl (Or.inr (sK hL)) rfl (sN hL) q4 ?_
  refine wcvI rfl (oK11 hL rfl) rfl rfl (R189 (d := d + 2) (h := h) hL hW) (fun v1 h2 hL hW => ?_)
  iterate 5 (refine kst rfl rfl ?_)
  obtain ⟨q5, hW⟩ := hW
  refine wald rfl (Or.inr (sK hL)) rfl (sN hL) q5 ?_
  iterate 4 (refine kst rfl rfl ?_)
  obtain ⟨q6, hW⟩ := hW
  refine wald rfl (Or.inr (sK hL)) rfl (sN hL) q6 ?_
  iterate 4 (refine kst rfl rfl ?_)
  obtain ⟨q7, hW⟩ := hW
  refine wald rfl (Or.inr (sK hL)) rfl (sN hL) q7 ?_
  refine wcvI rfl (oK12 hL rfl) rfl rfl (R322 (d := d + 0) (h := h2) hL hW) (fun v3 h4 hL hW => ?_)
  refine wcm_eq rfl hW (fun hW => ?_) (fun hW => ?_)
  · iterate 2 (refine kst rfl rfl ?_)
    have z9 := k18 ((x3 + 6), h4) hW hL
    refine wjp ?_ z9
    exact ⟨rfl, rfl, rfl, rfl, trivial⟩
  · refine kst rfl rfl ?_
    refine kre rfl rfl ?_
    exact ⟨_, _, rfl, hL, hW⟩
set_option maxRecDepth 100000 in
set_option maxHeartbeats 4000000 in
theorem R330_1302 {d : Nat} {x3 : Int32} {h : TH} {C : Int32 → TH → Prop} {X18 : Int32 × TH → Prop} (k18 : ∀ s : Int32 × TH, X18 s → Lay (s.2) → xEk (d + 9) 330 (18, [(0, .ref 1000000), (1, .ref 0), (2, .ref 197), (3, .int (s.1))], [], (TH.X (s.2))) (postI C)) (hL : Lay h) (hW : B330_1302 x3 h C X18) : xEk (d + 9) 330 (1302, [(0, .ref 1000000), (1, .ref 0), (2, .ref 197), (3, .int x3)], [], h.X) (postI C) := by
  unfold B330_1302 at hW
  refine kst rfl rfl ?_
  refine wcvI rfl (oK11 hL rfl) rfl rfl (R190 (d := d + 6) (h := h) hL hW) (fun v1 h2 hL hW => ?_)
  refine kst rfl rfl ?_
  refine wcvI rfl (oK12 hL rfl) rfl rfl (R324 (d := d + 7) (h := h2) hL hW) (fun v3 h4 hL hW => ?_)
  refine wcm_eq rfl hW (fun hW => ?_) (fun hW => ?_)
  · iterate 2 (refine kst rfl rfl ?_)
    have z9 := k18 ((x3 + 6), h4) hW hL
    refine wjp ?_ z9
    exact ⟨rfl, rfl, rfl, rfl, trivial⟩
  · refine kst rfl rfl ?_
    refine kre rfl rfl ?_
    exact ⟨_, _, rfl, hL, hW⟩
set_option maxRecDepth 100000 in
set_option maxHeartbeats 4000000 in
theorem R330_1315 {d : Nat} {x3 : Int32} {h : TH} {C : Int32 → TH → Prop} {X18 : Int32 × TH → Prop} (k18 : ∀ s : Int32 × TH, X18 s → Lay (s.2) → xEk (d + 9) 330 (18, [(0, .ref 1000000), (1, .ref 0), (2, .ref 197), (3, .int (s.1))], [], (TH.X (s.2))) (postI C)) (hL : Lay h) (hW : B330_1315 x3 h C X18) : xEk (d + 9) 330 (1315, [(0, .ref 1000000), (1, .ref 0), (2, .ref 197), (3, .int x3)], [], h.X) (postI C) := by
  unfold B330_1315 at hW
  refine kst rfl rfl ?_
  refine wcvI rfl (oK11 hL rfl) rfl rfl (R191 (d := d + 7) (h := h) hL hW) (fun v1 h2 hL hW => ?_)
  refine kst rfl rfl ?_
  refine wcvI rfl (oK12 hL rfl) rfl rfl (R325 (d := d + 7) (h := h2) hL hW) (fun v3 h4 hL hW => ?_)
  refine wcm_eq rfl hW (fun hW => ?_) (fun hW => ?_)
  · iterate 2 (refine kst rfl rfl ?_)
    have z9 := k18 ((x3 + 6), h4) hW hL
    refine wjp ?_ z9
    exact ⟨rfl, rfl, rfl, rfl, trivial⟩
  · refine kst rfl rfl ?_
    refine kre rfl rfl ?_
    exact ⟨_, _, rfl, hL, hW⟩
set_option maxRecDepth 100000 in
set_option maxHeartbeats 4000000 in
theorem R330_18 {d : Nat} {x3 : Int32} {h : TH} {C : Int32 → TH → Prop} (hL : Lay h) (hW : B330_18 x3 h C) : xEk (d + 9) 330 (18, [(0, .ref 1000000), (1, .ref 0), (2, .ref 197), (3, .int x3)], [], h.X) (postI C) := by
  refine hW (fun s => Lay (s.2) → xEk (d + 9) 330 (18, [(0, .ref 1000000), (1, .ref 0), (2, .ref 197), (3, .int (s.1))], [], (TH.X (s.2))) (postI C)) ?_ hL
  rintro ⟨x3, h⟩ hW hL
  have k18 : ∀ s : Int32 × TH, (fun s => Lay (s.2) → xEk (d + 9) 330 (18, [(0, .ref 1000000), (1, .ref 0), (2, .ref 197), (3, .int (s.1))], [], (TH.X (s.2))) (postI C)) s → Lay (s.2) → xEk (d + 9) 330 (18, [(0, .ref 1000000), (1, .ref 0), (2, .ref 197), (3, .int (s.1))], [], (TH.X (s.2))) (postI C) := fun s hs => hs
  unfold F330_18 at hW
  dsimp only at hW
  iterate 2 (refine kst rfl rfl ?_)
  refine walen (kd := 8) rfl (sK hL) (by decide) rfl ?_
  iterate 2 (refine kst rfl rfl ?_)
  refine wcm_gt rfl hW (fun hW => ?_) (fun hW => ?_)
  · refine kst rfl rfl ?_
    refine kre rfl rfl ?_
    exact ⟨_, _, rfl, hL, hW⟩
  · iterate 2 (refine kst rfl rfl ?_)
    obtain ⟨q1, hW⟩ := hW
    refine wald rfl (Or.inr (sK hL)) rfl (sN hL) q1 ?_
    iterate 2 (refine kst rfl rfl ?_)
    refine wsw hW (fun c0 hW => ?_) (fun c0 hW => ?_)
    · refine wswi (t := 212) rfl (fun _ => rfl) (swc c0 rfl) ?_
      refine wjp ?_ (R330_212 (h := h) k18 hL hW)
      exact ⟨rfl, rfl, rfl, rfl, trivial⟩
    refine wsw hW (fun c1 hW => ?_) (fun c1 hW => ?_)
    · refine wswi (t := 225) rfl (fun _ => rfl) (swc c1 rfl) ?_
      refine wjp ?_ (R330_225 (h := h) k18 hL hW)
      exact ⟨rfl, rfl, rfl, rfl, trivial⟩
    refine wsw hW (fun c2 hW => ?_) (fun c2 hW => ?_)
    · refine wswi (t := 239) rfl (fun _ => rfl) (swc c2 rfl) ?_
      refine wjp ?_ (R330_239 (h := h) k18 hL hW)
      exact ⟨rfl, rfl, rfl, rfl, trivial⟩
    refine wsw hW (fun c3 hW => ?_) (fun c3 hW => ?_)
    · refine wswi (t := 253) rfl (fun _ => rfl) (swc c3 rfl) ?_
      refine wjp ?_ (R330_253 (h := h) k18 hL hW)
      exact ⟨rfl, rfl, rfl, rfl, trivial⟩
    refine wsw hW (fun c4 hW => ?_) (fun c4 hW => ?_)
    · refine wswi (t := 296) rfl (fun _ => rfl) (swc c4 rfl) ?_
      refine wjp ?_ (R330_296 (h := h) k18 hL hW)
      exact ⟨rfl, rfl, rfl, rfl, trivial⟩
    refine wsw hW (fun c5 hW => ?_) (fun c5 hW => ?_)
    · refine wswi (t := 369) rfl (fun _ => rfl) (swc c5 rfl) ?_
      refine wjp ?_ (R330_369 (h := h) k18 hL hW)
      exact ⟨rfl, rfl, rfl, rfl, trivial⟩
    refine wsw hW (fun c6 hW => ?_) (fun c6 hW => ?_)
    · refine wswi (t := 403) rfl (fun _ => rfl) (swc c6 rfl) ?_
      refine wjp ?_ (R330_403 (h := h) k18 hL hW)
      exact ⟨rfl, rfl, rfl, rfl, trivial⟩
    refine wsw hW (fun c7 hW => ?_) (fun c7 hW => ?_)
    · refine wswi (t := 466) rfl (fun _ => rfl) (swc c7 rfl) ?_
      refine wjp ?_ (R330_466 (h := h) k18 hL hW)
      exact ⟨rfl, rfl, rfl, rfl, trivial⟩
    refine wsw hW (fun c8 hW => ?_) (fun c8 hW => ?_)
    · refine wswi (t := 529) rfl (fun _ => rfl) (swc c8 rfl) ?_
      refine wjp ?_ (R330_529 (h := h) k18 hL hW)
      exact ⟨rfl, rfl, rfl, rfl, trivial⟩
    refine wsw hW (fun c9 hW => ?_) (fun c9 hW => ?_)
    · refine wswi (t := 552) rfl (fun _ => rfl) (swc c9 rfl) ?_
      refine wjp ?_ (R330_552 (h := h) k18 hL hW)
      exact ⟨rfl, rfl, rfl, rfl, trivial⟩
    refine wsw hW (fun c10 hW => ?_) (fun c10 hW => ?_)
    · refine wswi (t := 575) rfl (fun _ => rfl) (swc c10 rfl) ?_
      refine wjp ?_ (R330_575 (h := h) k18 hL hW)
      exact ⟨rfl, rfl, rfl, rfl, trivial⟩
    refine wsw hW (fun c11 hW => ?_) (fun c11 hW => ?_)
    · refine wswi (t := 598) rfl (fun _ => rfl) (swc c11 rfl) ?_
      refine wjp ?_ (R330_598 (h := h) k18 hL hW)
      exact ⟨rfl, rfl, rfl, rfl, trivial⟩
    refine wsw hW (fun c12 hW => ?_) (fun c12 hW => ?_)
    · refine wswi (t := 621) rfl (fun _ => rfl) (swc c12 rfl) ?_
      refine wjp ?_ (R330_621 (h := h) k18 hL hW)
      exact ⟨rfl, rfl, rfl, rfl, trivial⟩
    refine wsw hW (fun c13 hW => ?_) (fun c13 hW => ?_)
    · refine wswi (t := 654) rfl (fun _ => rfl) (swc c13 rfl) ?_
      refine wjp ?_ (R330_654 (h := h) k18 hL hW)
      exact ⟨rfl, rfl, rfl, rfl, trivial⟩
    refine wsw hW (fun c14 hW => ?_) (fun c14 hW => ?_)
    · refine wswi (t := 677) rfl (fun _ => rfl) (swc c14 rfl) ?_
      refine wjp ?_ (R330_677 (h := h) k18 hL hW)
      exact ⟨rfl, rfl, rfl, rfl, trivial⟩
    refine wsw hW (fun c15 hW => ?_) (fun c15 hW => ?_)
    · refine wswi (t := 700) rfl (fun _ => rfl) (swc c15 rfl) ?_
      refine wjp ?_ (R330_700 (h := h) k18 hL hW)
      exact ⟨rfl, rfl, rfl, rfl, trivial⟩
    refine wsw hW (fun c16 hW => ?_) (fun c16 hW => ?_)
    · refine wswi (t := 723) rfl (fun _ => rfl) (swc c16 rfl) ?_
      refine wjp ?_ (R330_723 (h := h) k18 hL hW)
      exact ⟨rfl, rfl, rfl, rfl, trivial⟩
    refine wsw hW (fun c17 hW => ?_) (fun c17 hW => ?_)
    · refine wswi (t := 746) rfl (fun _ => rfl) (swc c17 rfl) ?_
      refine wjp ?_ (R330_746 (h := h) k18 hL hW)
      exact ⟨rfl, rfl, rfl, rfl, trivial⟩
    refine wsw hW (fun c18 hW => ?_) (fun c18 hW => ?_)
    · refine wswi (t := 779) rfl (fun _ => rfl) (swc c18 rfl) ?_
      refine wjp ?_ (R330_779 (h := h) k18 hL hW)
      exact ⟨rfl, rfl, rfl, rfl, trivial⟩
    refine wsw hW (fun c19 hW => ?_) (fun c19 hW => ?_)
    · refine wswi (t := 802) rfl (fun _ => rfl) (swc c19 rfl) ?_
      refine wjp ?_ (R330_802 (h := h) k18 hL hW)
      exact ⟨rfl, rfl, rfl, rfl, trivial⟩
    refine wsw hW (fun c20 hW => ?_) (fun c20 hW => ?_)
    · refine wswi (t := 825) rfl (fun _ => rfl) (swc c20 rfl) ?_
      refine wjp ?_ (R330_825 (h := h) k18 hL hW)
      exact ⟨rfl, rfl, rfl, rfl, trivial⟩
    refine wsw hW (fun c21 hW => ?_) (fun c21 hW => ?_)
    · refine wswi (t := 848) rfl (fun _ => rfl) (swc c21 rfl) ?_
      refine wjp ?_ (R330_848 (h := h) k18 hL hW)
      exact ⟨rfl, rfl, rfl, rfl, trivial⟩
    refine wsw hW (fun c22 hW => ?_) (fun c22 hW => ?_)
    · refine wswi (t := 871) rfl (fun _ => rfl) (swc c22 rfl) ?_
      refine wjp ?_ (R330_871 (h := h) k18 hL hW)
      exact ⟨rfl, rfl, rfl, rfl, trivial⟩
    refine wsw hW (fun c23 hW => ?_) (fun c23 hW => ?_)
    · refine wswi (t := 884) rfl (fun _ => rfl) (swc c23 rfl) ?_
      refine wjp ?_ (R330_884 (h := h) k18 hL hW)
      exact ⟨rfl, rfl, rfl, rfl, trivial⟩
    refine wsw hW (fun c24 hW => ?_) (fun c24 hW => ?_)
    · refine wswi (t := 907) rfl (fun _ => rfl) (swc c24 rfl) ?_
      refine wjp ?_ (R330_907 (h := h) k18 hL hW)
      exact ⟨rfl, rfl, rfl, rfl, trivial⟩
    refine wsw hW (fun c25 hW => ?_) (fun c25 hW => ?_)
    · refine wswi (t := 930) rfl (fun _ => rfl) (swc c25 rfl) ?_
      refine wjp ?_ (R330_930 (h := h) k18 hL hW)
      exact ⟨rfl, rfl, rfl, rfl, trivial⟩
    refine wsw hW (fun c26 hW => ?_) (fun c26 hW => ?_)
    · refine wswi (t := 953) rfl (fun _ => rfl) (swc c26 rfl) ?_
      refine wjp ?_ (R330_953 (h := h) k18 hL hW)
      exact ⟨rfl, rfl, rfl, rfl, trivial⟩
    refine wsw hW (fun c27 hW => ?_) (fun c27 hW => ?_)
    · refine wswi (t := 986) rfl (fun _ => rfl) (swc c27 rfl) ?_
      refine wjp ?_ (R330_986 (h := h) k18 hL hW)
      exact ⟨rfl, rfl, rfl, rfl, trivial⟩
    refine wsw hW (fun c28 hW => ?_) (fun c28 hW => ?_)
    · refine wswi (t := 1009) rfl (fun _ => rfl) (swc c28 rfl) ?_
      refine wjp ?_ (R330_1009 (h := h) k18 hL hW)
      exact ⟨rfl, rfl, rfl, rfl, trivial⟩
    refine wsw hW (fun c29 hW => ?_) (fun c29 hW => ?_)
    · refine wswi (t := 1042) rfl (fun _ => rfl) (swc c29 rfl) ?_
      refine wjp ?_ (R330_1042 (h := h) k18 hL hW)
      exact ⟨rfl, rfl, rfl, rfl, trivial⟩
    refine wsw hW (fun c30 hW => ?_) (fun c30 hW => ?_)
    · refine wswi (t := 1065) rfl (fun _ => rfl) (swc c30 rfl) ?_
      refine wjp ?_ (R330_1065 (h := h) k18 hL hW)
      exact ⟨rfl, rfl, rfl, rfl, trivial⟩
    refine wsw hW (fun c31 hW => ?_) (fun c31 hW => ?_)
    · refine wswi (t := 1088) rfl (fun _ => rfl) (swc c31 rfl) ?_
      refine wjp ?_ (R330_1088 (h := h) k18 hL hW)
      exact ⟨rfl, rfl, rfl, rfl, trivial⟩
    refine wsw hW (fun c32 hW => ?_) (fun c32 hW => ?_)
    · refine wswi (t := 1111) rfl (fun _ => rfl) (swc c32 rfl) ?_
      refine wjp ?_ (R330_1111 (h := h) k18 hL hW)
      exact ⟨rfl, rfl, rfl, rfl, trivial⟩
    refine wsw hW (fun c33 hW => ?_) (fun c33 hW => ?_)
    · refine wswi (t := 1144) rfl (fun _ => rfl) (swc c33 rfl) ?_
      refine wjp ?_ (R330_1144 (h := h) k18 hL hW)
      exact ⟨rfl, rfl, rfl, rfl, trivial⟩
    refine wsw hW (fun c34 hW => ?_) (fun c34 hW => ?_)
    · refine wswi (t := 1177) rfl (fun _ => rfl) (swc c34 rfl) ?_
      refine wjp ?_ (R330_1177 (h := h) k18 hL hW)
      exact ⟨rfl, rfl, rfl, rfl, trivial⟩
    refine wsw hW (fun c35 hW => ?_) (fun c35 hW => ?_)
    · refine wswi (t := 1200) rfl (fun _ => rfl) (swc c35 rfl) ?_
      refine wjp ?_ (R330_1200 (h := h) k18 hL hW)
      exact ⟨rfl, rfl, rfl, rfl, trivial⟩
    refine wsw hW (fun c36 hW => ?_) (fun c36 hW => ?_)
    · refine wswi (t := 1223) rfl (fun _ => rfl) (swc c36 rfl) ?_
      refine wjp ?_ (R330_1223 (h := h) k18 hL hW)
      exact ⟨rfl, rfl, rfl, rfl, trivial⟩
    refine wsw hW (fun c37 hW => ?_) (fun c37 hW => ?_)
    · refine wswi (t := 1246) rfl (fun _ => rfl) (swc c37 rfl) ?_
      refine wjp ?_ (R330_1246 (h := h) k18 hL hW)
      exact ⟨rfl, rfl, rfl, rfl, trivial⟩
    refine wsw hW (fun c38 hW => ?_) (fun c38 hW => ?_)
    · refine wswi (t := 1259) rfl (fun _ => rfl) (swc c38 rfl) ?_
      refine wjp ?_ (R330_1259 (h := h) k18 hL hW)
      exact ⟨rfl, rfl, rfl, rfl, trivial⟩
    refine wsw hW (fun c39 hW => ?_) (fun c39 hW => ?_)
    · refine wswi (t := 1302) rfl (fun _ => rfl) (swc c39 rfl) ?_
      refine wjp ?_ (R330_1302 (h := h) k18 hL hW)
      exact ⟨rfl, rfl, rfl, rfl, trivial⟩
    refine wsw hW (fun c40 hW => ?_) (fun c40 hW => ?_)
    · refine wswi (t := 1315) rfl (fun _ => rfl) (swc c40 rfl) ?_
      refine wjp ?_ (R330_1315 (h := h) k18 hL hW)
      exact ⟨rfl, rfl, rfl, rfl, trivial⟩
    refine wswi (t := 1328) rfl (fun _ => rfl) (tswD (by show ((h.I 1000000 (ix x3)) &&& 63).toInt < (0 : Int) ∨ (40 : Int) < ((h.I 1000000 (ix x3)) &&& 63).toInt; have z0 := i32ne (k := 0) c0 rfl; have z1 := i32ne (k := 1) c1 rfl; have z2 := i32ne (k := 2) c2 rfl; have z3 := i32ne (k := 3) c3 rfl; have z4 := i32ne (k := 4) c4 rfl; have z5 := i32ne (k := 5) c5 rfl; have z6 := i32ne (k := 6) c6 rfl; have z7 := i32ne (k := 7) c7 rfl; have z8 := i32ne (k := 8) c8 rfl; have z9 := i32ne (k := 9) c9 rfl; have z10 := i32ne (k := 10) c10 rfl; have z11 := i32ne (k := 11) c11 rfl; have z12 := i32ne (k := 12) c12 rfl; have z13 := i32ne (k := 13) c13 rfl; have z14 := i32ne (k := 14) c14 rfl; have z15 := i32ne (k := 15) c15 rfl; have z16 := i32ne (k := 16) c16 rfl; have z17 := i32ne (k := 17) c17 rfl; have z18 := i32ne (k := 18) c18 rfl; have z19 := i32ne (k := 19) c19 rfl; have z20 := i32ne (k := 20) c20 rfl; have z21 := i32ne (k := 21) c21 rfl; have z22 := i32ne (k := 22) c22 rfl; have z23 := i32ne (k := 23) c23 rfl; have z24 := i32ne (k := 24) c24 rfl; have z25 := i32ne (k := 25) c25 rfl; have z26 := i32ne (k := 26) c26 rfl; have z27 := i32ne (k := 27) c27 rfl; have z28 := i32ne (k := 28) c28 rfl; have z29 := i32ne (k := 29) c29 rfl; have z30 := i32ne (k := 30) c30 rfl; have z31 := i32ne (k := 31) c31 rfl; have z32 := i32ne (k := 32) c32 rfl; have z33 := i32ne (k := 33) c33 rfl; have z34 := i32ne (k := 34) c34 rfl; have z35 := i32ne (k := 35) c35 rfl; have z36 := i32ne (k := 36) c36 rfl; have z37 := i32ne (k := 37) c37 rfl; have z38 := i32ne (k := 38) c38 rfl; have z39 := i32ne (k := 39) c39 rfl; have z40 := i32ne (k := 40) c40 rfl; first | omega | (have z9 := i32ne c0 rfl; omega)) rfl) ?_
    iterate 2 (refine kst rfl rfl ?_)
    have z9 := k18 ((x3 + 6), h) hW hL
    refine wjp ?_ z9
    exact ⟨rfl, rfl, rfl, rfl, trivial⟩
