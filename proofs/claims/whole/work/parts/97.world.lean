/-! WHAT MUST HOLD OF THE WORLD beside our cells: nest words, rows of objects, texts, throws; String.length and charAt -/
def XN (x : CX) : Prop :=
  (NestOk x RX1 140 yX7_callNumber "LiftBank") ∧
  (NestOk x RX1 64 yX2_init "LiftBank") ∧
  (NestOk x RX1 69 yX6_init "LiftBank") ∧
  (NestOk x RX3 20 yX0_init "LiftBank") ∧
  (NestOk x RX7 29 yX5_init "LiftBank") ∧
  (NestOk x RX7 36 yX3_init "LiftBank") ∧
  (NestOk x RX7 9 yX4_init "LiftBank") ∧
  (AOOk x "LiftBank$Bank") ∧
  (AOOk x "LiftBank$Car") ∧
  (AOOk x "LiftBank$Rider") ∧
  (AOOk x "java/lang/String") ∧
  (TxtOk x RX4 107 "dwell" 3) ∧
  (TxtOk x RX4 115 "late" 4) ∧
  (TxtOk x RX4 119 "policy" 5) ∧
  (TxtOk x RX4 123 "peak" 6) ∧
  (TxtOk x RX4 138 "persons" 7) ∧
  (TxtOk x RX4 140 "parcels" 8) ∧
  (TxtOk x RX4 149 "parcel" 9) ∧
  (TxtOk x RX4 88 "floors" 0) ∧
  (TxtOk x RX4 97 "car" 1) ∧
  (TxtOk x RX4 102 "rider" 2) ∧
  (TxtOk x RX8 11 "car" 11) ∧
  (TxtOk x RX8 13 "rider" 12) ∧
  (TxtOk x RX8 15 "dwell" 13) ∧
  (TxtOk x RX8 17 "late" 14) ∧
  (TxtOk x RX8 180 "persons" 17) ∧
  (TxtOk x RX8 182 "parcels" 18) ∧
  (TxtOk x RX8 184 "parcel" 19) ∧
  (TxtOk x RX8 19 "policy" 15) ∧
  (TxtOk x RX8 21 "peak" 16) ∧
  (TxtOk x RX8 9 "floors" 10) ∧
  (AnyOk x 10) ∧
  (AnyOk x 11) ∧
  (AnyOk x 12) ∧
  (AnyOk x 13) ∧
  (AnyOk x 14) ∧
  (AnyOk x 15) ∧
  (AnyOk x 16) ∧
  (ThrowOk x RX7 "java/lang/IllegalArgumentException" "no such policy or late" ["java/lang/RuntimeException", "java/lang/Exception"] 321 59) ∧
  (ThrowOk x RX7 "java/lang/IllegalArgumentException" "not so far ahead" ["java/lang/RuntimeException", "java/lang/Exception"] 310 59) ∧
  (ThrowOk x RX7 "java/lang/IllegalArgumentException" "not so many years" ["java/lang/RuntimeException", "java/lang/Exception"] 386 59) ∧
  (ThrowOk x RX7 "java/lang/IllegalArgumentException" "the car is out, or does not take that sort" ["java/lang/RuntimeException", "java/lang/Exception"] 286 59) ∧
  (ThrowOk x RX7 "java/lang/IllegalArgumentException" "the tape has not so many bytes" ["java/lang/RuntimeException", "java/lang/Exception"] 57 59) ∧
  (ThrowOk x RX7 "java/util/NoSuchElementException" "no such car" ["java/lang/RuntimeException", "java/lang/Exception"] 190 179) ∧
  (ThrowOk x RX7 "java/util/NoSuchElementException" "no such car, floor or sort" ["java/lang/RuntimeException", "java/lang/Exception"] 281 179) ∧
  (ThrowOk x RX7 "java/util/NoSuchElementException" "no such car, or what of homes" ["java/lang/RuntimeException", "java/lang/Exception"] 342 179) ∧
  (ThrowOk x RX7 "java/util/NoSuchElementException" "no such count" ["java/lang/RuntimeException", "java/lang/Exception"] 177 179) ∧
  (ThrowOk x RX7 "java/util/NoSuchElementException" "no such floor or sort" ["java/lang/RuntimeException", "java/lang/Exception"] 272 179) ∧
  (ThrowOk x RX7 "java/util/NoSuchElementException" "no such rider of the text" ["java/lang/RuntimeException", "java/lang/Exception"] 351 179) ∧
  (ThrowOk x RX7 "java/util/NoSuchElementException" "no such rider" ["java/lang/RuntimeException", "java/lang/Exception"] 235 179) ∧
  (ThrowOk x RX7 "java/util/NoSuchElementException" "no such what of a car" ["java/lang/RuntimeException", "java/lang/Exception"] 233 179) ∧
  (ThrowOk x RX7 "java/util/NoSuchElementException" "no such what of a rider" ["java/lang/RuntimeException", "java/lang/Exception"] 263 179) ∧
  (ThrowOk x RX7 "java/util/NoSuchElementException" "no such what of ahead" ["java/lang/RuntimeException", "java/lang/Exception"] 308 179) ∧
  (ThrowOk x RX7 "java/util/NoSuchElementException" "no such what of anew" ["java/lang/RuntimeException", "java/lang/Exception"] 331 179) ∧
  (ThrowOk x RX7 "java/util/NoSuchElementException" "no such what of fits" ["java/lang/RuntimeException", "java/lang/Exception"] 370 179) ∧
  (ThrowOk x RX7 "java/util/NoSuchElementException" "no such what of look" ["java/lang/RuntimeException", "java/lang/Exception"] 378 179) ∧
  (ThrowOk x RX7 "java/util/NoSuchElementException" "no such what of years" ["java/lang/RuntimeException", "java/lang/Exception"] 384 179)
theorem XN.n_RX1_140 {x : CX} (q : XN x) : NestOk x RX1 140 yX7_callNumber "LiftBank" := q.1
theorem XN.n_RX1_64 {x : CX} (q : XN x) : NestOk x RX1 64 yX2_init "LiftBank" := q.2.1
theorem XN.n_RX1_69 {x : CX} (q : XN x) : NestOk x RX1 69 yX6_init "LiftBank" := q.2.2.1
theorem XN.n_RX3_20 {x : CX} (q : XN x) : NestOk x RX3 20 yX0_init "LiftBank" := q.2.2.2.1
theorem XN.n_RX7_29 {x : CX} (q : XN x) : NestOk x RX7 29 yX5_init "LiftBank" := q.2.2.2.2.1
theorem XN.n_RX7_36 {x : CX} (q : XN x) : NestOk x RX7 36 yX3_init "LiftBank" := q.2.2.2.2.2.1
theorem XN.n_RX7_9 {x : CX} (q : XN x) : NestOk x RX7 9 yX4_init "LiftBank" := q.2.2.2.2.2.2.1
theorem XN.ao_Bank {x : CX} (q : XN x) : AOOk x "LiftBank$Bank" := q.2.2.2.2.2.2.2.1
theorem XN.ao_Car {x : CX} (q : XN x) : AOOk x "LiftBank$Car" := q.2.2.2.2.2.2.2.2.1
theorem XN.ao_Rider {x : CX} (q : XN x) : AOOk x "LiftBank$Rider" := q.2.2.2.2.2.2.2.2.2.1
theorem XN.ao_String {x : CX} (q : XN x) : AOOk x "java/lang/String" := q.2.2.2.2.2.2.2.2.2.2.1
theorem XN.tx_RX4_107 {x : CX} (q : XN x) : TxtOk x RX4 107 "dwell" 3 := q.2.2.2.2.2.2.2.2.2.2.2.1
theorem XN.tx_RX4_115 {x : CX} (q : XN x) : TxtOk x RX4 115 "late" 4 := q.2.2.2.2.2.2.2.2.2.2.2.2.1
theorem XN.tx_RX4_119 {x : CX} (q : XN x) : TxtOk x RX4 119 "policy" 5 := q.2.2.2.2.2.2.2.2.2.2.2.2.2.1
theorem XN.tx_RX4_123 {x : CX} (q : XN x) : TxtOk x RX4 123 "peak" 6 := q.2.2.2.2.2.2.2.2.2.2.2.2.2.2.1
theorem XN.tx_RX4_138 {x : CX} (q : XN x) : TxtOk x RX4 138 "persons" 7 := q.2.2.2.2.2.2.2.2.2.2.2.2.2.2.2.1
theorem XN.tx_RX4_140 {x : CX} (q : XN x) : TxtOk x RX4 140 "parcels" 8 := q.2.2.2.2.2.2.2.2.2.2.2.2.2.2.2.2.1
theorem XN.tx_RX4_149 {x : CX} (q : XN x) : TxtOk x RX4 149 "parcel" 9 := q.2.2.2.2.2.2.2.2.2.2.2.2.2.2.2.2.2.1
theorem XN.tx_RX4_88 {x : CX} (q : XN x) : TxtOk x RX4 88 "floors" 0 := q.2.2.2.2.2.2.2.2.2.2.2.2.2.2.2.2.2.2.1
theorem XN.tx_RX4_97 {x : CX} (q : XN x) : TxtOk x RX4 97 "car" 1 := q.2.2.2.2.2.2.2.2.2.2.2.2.2.2.2.2.2.2.2.1
theorem XN.tx_RX4_102 {x : CX} (q : XN x) : TxtOk x RX4 102 "rider" 2 := q.2.2.2.2.2.2.2.2.2.2.2.2.2.2.2.2.2.2.2.2.1
theorem XN.tx_RX8_11 {x : CX} (q : XN x) : TxtOk x RX8 11 "car" 11 := q.2.2.2.2.2.2.2.2.2.2.2.2.2.2.2.2.2.2.2.2.2.1
theorem XN.tx_RX8_13 {x : CX} (q : XN x) : TxtOk x RX8 13 "rider" 12 := q.2.2.2.2.2.2.2.2.2.2.2.2.2.2.2.2.2.2.2.2.2.2.1
theorem XN.tx_RX8_15 {x : CX} (q : XN x) : TxtOk x RX8 15 "dwell" 13 := q.2.2.2.2.2.2.2.2.2.2.2.2.2.2.2.2.2.2.2.2.2.2.2.1
theorem XN.tx_RX8_17 {x : CX} (q : XN x) : TxtOk x RX8 17 "late" 14 := q.2.2.2.2.2.2.2.2.2.2.2.2.2.2.2.2.2.2.2.2.2.2.2.2.1
theorem XN.tx_RX8_180 {x : CX} (q : XN x) : TxtOk x RX8 180 "persons" 17 := q.2.2.2.2.2.2.2.2.2.2.2.2.2.2.2.2.2.2.2.2.2.2.2.2.2.1
theorem XN.tx_RX8_182 {x : CX} (q : XN x) : TxtOk x RX8 182 "parcels" 18 := q.2.2.2.2.2.2.2.2.2.2.2.2.2.2.2.2.2.2.2.2.2.2.2.2.2.2.1
theorem XN.tx_RX8_184 {x : CX} (q : XN x) : TxtOk x RX8 184 "parcel" 19 := q.2.2.2.2.2.2.2.2.2.2.2.2.2.2.2.2.2.2.2.2.2.2.2.2.2.2.2.1
theorem XN.tx_RX8_19 {x : CX} (q : XN x) : TxtOk x RX8 19 "policy" 15 := q.2.2.2.2.2.2.2.2.2.2.2.2.2.2.2.2.2.2.2.2.2.2.2.2.2.2.2.2.1
theorem XN.tx_RX8_21 {x : CX} (q : XN x) : TxtOk x RX8 21 "peak" 16 := q.2.2.2.2.2.2.2.2.2.2.2.2.2.2.2.2.2.2.2.2.2.2.2.2.2.2.2.2.2.1
theorem XN.tx_RX8_9 {x : CX} (q : XN x) : TxtOk x RX8 9 "floors" 10 := q.2.2.2.2.2.2.2.2.2.2.2.2.2.2.2.2.2.2.2.2.2.2.2.2.2.2.2.2.2.2.1
theorem XN.any_10 {x : CX} (q : XN x) : AnyOk x 10 := q.2.2.2.2.2.2.2.2.2.2.2.2.2.2.2.2.2.2.2.2.2.2.2.2.2.2.2.2.2.2.2.1
theorem XN.any_11 {x : CX} (q : XN x) : AnyOk x 11 := q.2.2.2.2.2.2.2.2.2.2.2.2.2.2.2.2.2.2.2.2.2.2.2.2.2.2.2.2.2.2.2.2.1
theorem XN.any_12 {x : CX} (q : XN x) : AnyOk x 12 := q.2.2.2.2.2.2.2.2.2.2.2.2.2.2.2.2.2.2.2.2.2.2.2.2.2.2.2.2.2.2.2.2.2.1
theorem XN.any_13 {x : CX} (q : XN x) : AnyOk x 13 := q.2.2.2.2.2.2.2.2.2.2.2.2.2.2.2.2.2.2.2.2.2.2.2.2.2.2.2.2.2.2.2.2.2.2.1
theorem XN.any_14 {x : CX} (q : XN x) : AnyOk x 14 := q.2.2.2.2.2.2.2.2.2.2.2.2.2.2.2.2.2.2.2.2.2.2.2.2.2.2.2.2.2.2.2.2.2.2.2.1
theorem XN.any_15 {x : CX} (q : XN x) : AnyOk x 15 := q.2.2.2.2.2.2.2.2.2.2.2.2.2.2.2.2.2.2.2.2.2.2.2.2.2.2.2.2.2.2.2.2.2.2.2.2.1
theorem XN.any_16 {x : CX} (q : XN x) : AnyOk x 16 := q.2.2.2.2.2.2.2.2.2.2.2.2.2.2.2.2.2.2.2.2.2.2.2.2.2.2.2.2.2.2.2.2.2.2.2.2.2.1
theorem XN.th_321 {x : CX} (q : XN x) : ThrowOk x RX7 "java/lang/IllegalArgumentException" "no such policy or late" ["java/lang/RuntimeException", "java/lang/Exception"] 321 59 := q.2.2.2.2.2.2.2.2.2.2.2.2.2.2.2.2.2.2.2.2.2.2.2.2.2.2.2.2.2.2.2.2.2.2.2.2.2.2.1
theorem XN.th_310 {x : CX} (q : XN x) : ThrowOk x RX7 "java/lang/IllegalArgumentException" "not so far ahead" ["java/lang/RuntimeException", "java/lang/Exception"] 310 59 := q.2.2.2.2.2.2.2.2.2.2.2.2.2.2.2.2.2.2.2.2.2.2.2.2.2.2.2.2.2.2.2.2.2.2.2.2.2.2.2.1
theorem XN.th_386 {x : CX} (q : XN x) : ThrowOk x RX7 "java/lang/IllegalArgumentException" "not so many years" ["java/lang/RuntimeException", "java/lang/Exception"] 386 59 := q.2.2.2.2.2.2.2.2.2.2.2.2.2.2.2.2.2.2.2.2.2.2.2.2.2.2.2.2.2.2.2.2.2.2.2.2.2.2.2.2.1
theorem XN.th_286 {x : CX} (q : XN x) : ThrowOk x RX7 "java/lang/IllegalArgumentException" "the car is out, or does not take that sort" ["java/lang/RuntimeException", "java/lang/Exception"] 286 59 := q.2.2.2.2.2.2.2.2.2.2.2.2.2.2.2.2.2.2.2.2.2.2.2.2.2.2.2.2.2.2.2.2.2.2.2.2.2.2.2.2.2.1
theorem XN.th_57 {x : CX} (q : XN x) : ThrowOk x RX7 "java/lang/IllegalArgumentException" "the tape has not so many bytes" ["java/lang/RuntimeException", "java/lang/Exception"] 57 59 := q.2.2.2.2.2.2.2.2.2.2.2.2.2.2.2.2.2.2.2.2.2.2.2.2.2.2.2.2.2.2.2.2.2.2.2.2.2.2.2.2.2.2.1
theorem XN.th_190 {x : CX} (q : XN x) : ThrowOk x RX7 "java/util/NoSuchElementException" "no such car" ["java/lang/RuntimeException", "java/lang/Exception"] 190 179 := q.2.2.2.2.2.2.2.2.2.2.2.2.2.2.2.2.2.2.2.2.2.2.2.2.2.2.2.2.2.2.2.2.2.2.2.2.2.2.2.2.2.2.2.1
theorem XN.th_281 {x : CX} (q : XN x) : ThrowOk x RX7 "java/util/NoSuchElementException" "no such car, floor or sort" ["java/lang/RuntimeException", "java/lang/Exception"] 281 179 := q.2.2.2.2.2.2.2.2.2.2.2.2.2.2.2.2.2.2.2.2.2.2.2.2.2.2.2.2.2.2.2.2.2.2.2.2.2.2.2.2.2.2.2.2.1
theorem XN.th_342 {x : CX} (q : XN x) : ThrowOk x RX7 "java/util/NoSuchElementException" "no such car, or what of homes" ["java/lang/RuntimeException", "java/lang/Exception"] 342 179 := q.2.2.2.2.2.2.2.2.2.2.2.2.2.2.2.2.2.2.2.2.2.2.2.2.2.2.2.2.2.2.2.2.2.2.2.2.2.2.2.2.2.2.2.2.2.1
theorem XN.th_177 {x : CX} (q : XN x) : ThrowOk x RX7 "java/util/NoSuchElementException" "no such count" ["java/lang/RuntimeException", "java/lang/Exception"] 177 179 := q.2.2.2.2.2.2.2.2.2.2.2.2.2.2.2.2.2.2.2.2.2.2.2.2.2.2.2.2.2.2.2.2.2.2.2.2.2.2.2.2.2.2.2.2.2.2.1
theorem XN.th_272 {x : CX} (q : XN x) : ThrowOk x RX7 "java/util/NoSuchElementException" "no such floor or sort" ["java/lang/RuntimeException", "java/lang/Exception"] 272 179 := q.2.2.2.2.2.2.2.2.2.2.2.2.2.2.2.2.2.2.2.2.2.2.2.2.2.2.2.2.2.2.2.2.2.2.2.2.2.2.2.2.2.2.2.2.2.2.2.1
theorem XN.th_351 {x : CX} (q : XN x) : ThrowOk x RX7 "java/util/NoSuchElementException" "no such rider of the text" ["java/lang/RuntimeException", "java/lang/Exception"] 351 179 := q.2.2.2.2.2.2.2.2.2.2.2.2.2.2.2.2.2.2.2.2.2.2.2.2.2.2.2.2.2.2.2.2.2.2.2.2.2.2.2.2.2.2.2.2.2.2.2.2.1
theorem XN.th_235 {x : CX} (q : XN x) : ThrowOk x RX7 "java/util/NoSuchElementException" "no such rider" ["java/lang/RuntimeException", "java/lang/Exception"] 235 179 := q.2.2.2.2.2.2.2.2.2.2.2.2.2.2.2.2.2.2.2.2.2.2.2.2.2.2.2.2.2.2.2.2.2.2.2.2.2.2.2.2.2.2.2.2.2.2.2.2.2.1
theorem XN.th_233 {x : CX} (q : XN x) : ThrowOk x RX7 "java/util/NoSuchElementException" "no such what of a car" ["java/lang/RuntimeException", "java/lang/Exception"] 233 179 := q.2.2.2.2.2.2.2.2.2.2.2.2.2.2.2.2.2.2.2.2.2.2.2.2.2.2.2.2.2.2.2.2.2.2.2.2.2.2.2.2.2.2.2.2.2.2.2.2.2.2.1
theorem XN.th_263 {x : CX} (q : XN x) : ThrowOk x RX7 "java/util/NoSuchElementException" "no such what of a rider" ["java/lang/RuntimeException", "java/lang/Exception"] 263 179 := q.2.2.2.2.2.2.2.2.2.2.2.2.2.2.2.2.2.2.2.2.2.2.2.2.2.2.2.2.2.2.2.2.2.2.2.2.2.2.2.2.2.2.2.2.2.2.2.2.2.2.2.1
theorem XN.th_308 {x : CX} (q : XN x) : ThrowOk x RX7 "java/util/NoSuchElementException" "no such what of ahead" ["java/lang/RuntimeException", "java/lang/Exception"] 308 179 := q.2.2.2.2.2.2.2.2.2.2.2.2.2.2.2.2.2.2.2.2.2.2.2.2.2.2.2.2.2.2.2.2.2.2.2.2.2.2.2.2.2.2.2.2.2.2.2.2.2.2.2.2.1
theorem XN.th_331 {x : CX} (q : XN x) : ThrowOk x RX7 "java/util/NoSuchElementException" "no such what of anew" ["java/lang/RuntimeException", "java/lang/Exception"] 331 179 := q.2.2.2.2.2.2.2.2.2.2.2.2.2.2.2.2.2.2.2.2.2.2.2.2.2.2.2.2.2.2.2.2.2.2.2.2.2.2.2.2.2.2.2.2.2.2.2.2.2.2.2.2.2.1
theorem XN.th_370 {x : CX} (q : XN x) : ThrowOk x RX7 "java/util/NoSuchElementException" "no such what of fits" ["java/lang/RuntimeException", "java/lang/Exception"] 370 179 := q.2.2.2.2.2.2.2.2.2.2.2.2.2.2.2.2.2.2.2.2.2.2.2.2.2.2.2.2.2.2.2.2.2.2.2.2.2.2.2.2.2.2.2.2.2.2.2.2.2.2.2.2.2.2.1
theorem XN.th_378 {x : CX} (q : XN x) : ThrowOk x RX7 "java/util/NoSuchElementException" "no such what of look" ["java/lang/RuntimeException", "java/lang/Exception"] 378 179 := q.2.2.2.2.2.2.2.2.2.2.2.2.2.2.2.2.2.2.2.2.2.2.2.2.2.2.2.2.2.2.2.2.2.2.2.2.2.2.2.2.2.2.2.2.2.2.2.2.2.2.2.2.2.2.2.1
theorem XN.th_384 {x : CX} (q : XN x) : ThrowOk x RX7 "java/util/NoSuchElementException" "no such what of years" ["java/lang/RuntimeException", "java/lang/Exception"] 384 179 := q.2.2.2.2.2.2.2.2.2.2.2.2.2.2.2.2.2.2.2.2.2.2.2.2.2.2.2.2.2.2.2.2.2.2.2.2.2.2.2.2.2.2.2.2.2.2.2.2.2.2.2.2.2.2.2.2
def wordL (j : Nat) : List Nat := match j % 10 with
  | 0 => [102, 108, 111, 111, 114, 115]
  | 1 => [99, 97, 114]
  | 2 => [114, 105, 100, 101, 114]
  | 3 => [100, 119, 101, 108, 108]
  | 4 => [108, 97, 116, 101]
  | 5 => [112, 111, 108, 105, 99, 121]
  | 6 => [112, 101, 97, 107]
  | 7 => [112, 101, 114, 115, 111, 110, 115]
  | 8 => [112, 97, 114, 99, 101, 108, 115]
  | _ => [112, 97, 114, 99, 101, 108]
def txL (j : Nat) : Nat := (wordL j).length
def txC (j i : Nat) : Nat := (wordL j).getD i 0
/-- String.length and charAt over the twenty texts -/
def XS (l : Launch) (x : CX) : Prop :=
  (∀ j v, j < 20 → StepT l x mX4_isWord 6 18 [.retAddr j, .int v] [.int (nI (txL j)), .int v]) ∧
  (∀ j v, j < 20 → StepT l x mX4_isWord 6 30 [.retAddr j, .int v] [.int (nI (txL j)), .int v]) ∧
  (∀ j i v, j < 20 → i < txL j → StepT l x mX4_isWord 6 49 [.int (nI i), .retAddr j, .int v] [.int (nI (txC j i)), .int v]) ∧
  (∀ j, j < 20 → StepT l x mX8_is 6 16 [.retAddr j] [.int (nI (txL j))]) ∧
  (∀ j v, j < 20 → StepT l x mX8_is 6 45 [.retAddr j, .int v] [.int (nI (txL j)), .int v]) ∧
  ∀ j i, j < 20 → i < txL j → StepT l x mX8_is 6 53 [.int (nI i), .retAddr j] [.int (nI (txC j i))]
def XO (l : Launch) (x : CX) : Prop := XN x ∧ XS l x
