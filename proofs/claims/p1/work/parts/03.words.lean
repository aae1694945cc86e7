theorem k1 : Cond.methodLink RX11 3 objectInit ∈ wB := wB_t (mT1 (j := 28) rfl) rfl
theorem k2 : Cond.instanceMethod objectInit ∈ wB := wB_t (mT1 (j := 29) rfl) rfl
theorem k3 : Cond.code objectInit ⟨#[0xb1]⟩ 1 none ∈ wB := wB_t (mT1 (j := 30) rfl) rfl
theorem k4 : Cond.constant RX11 9 (65000) ∈ wB := wB_t (mT1 (j := 31) rfl) rfl
theorem k5 : Cond.arrayClass .byte ∈ wB := wB_t (mT1 (j := 90) rfl) rfl
theorem k6 : Cond.fieldLink RX11 10 "FrostHouse" "tape" "[B" ∈ wB := wB_t (mT4 (j := 193) rfl) rfl
theorem k7 : Cond.fieldLink RX11 14 "FrostHouse" "image" "[B" ∈ wB := wB_t (mT4 (j := 194) rfl) rfl
theorem k8 : Cond.classLink RX11 17 RX3 ∈ wB := wB_t (mT1 (j := 32) rfl) rfl
theorem k9 : Cond.instantiable RX3 20 ∈ wB := wB_t (mT1 (j := 33) rfl) rfl
theorem k10 : Cond.initialized RX3 ∈ wB := wB_t (mT1 (j := 2) rfl) rfl
theorem k11 : Cond.methodLink RX3 3 objectInit ∈ wB := wB_t (mT1 (j := 37) rfl) rfl
theorem k12 : Cond.classLink RX3 9 RX9 ∈ wB := wB_t (mT1 (j := 38) rfl) rfl
theorem k13 : Cond.instantiable RX9 12 ∈ wB := wB_t (mT1 (j := 39) rfl) rfl
theorem k14 : Cond.initialized RX9 ∈ wB := wB_t (mT1 (j := 3) rfl) rfl
theorem k15 : Cond.methodLink RX9 3 objectInit ∈ wB := wB_t (mT1 (j := 43) rfl) rfl
theorem k16 : Cond.arrayClass .int ∈ wB := wB_t (mT1 (j := 91) rfl) rfl
theorem k17 : Cond.fieldLink RX9 11 "FrostHouse$Tokens" "kind" "[I" ∈ wB := wB_t (mT1 (j := 44) rfl) rfl
theorem k18 : Cond.fieldLink RX9 15 "FrostHouse$Tokens" "place" "[I" ∈ wB := wB_t (mT1 (j := 47) rfl) rfl
theorem k19 : Cond.fieldLink RX9 18 "FrostHouse$Tokens" "size" "[I" ∈ wB := wB_t (mT1 (j := 50) rfl) rfl
theorem k20 : Cond.fieldLink RX9 21 "FrostHouse$Tokens" "value" "[I" ∈ wB := wB_t (mT1 (j := 52) rfl) rfl
theorem k21 : Cond.fieldLink RX9 24 "FrostHouse$Tokens" "typed" "[I" ∈ wB := wB_t (mT1 (j := 54) rfl) rfl
theorem k22 : Cond.fieldLink RX9 27 "FrostHouse$Tokens" "spelling" "[I" ∈ wB := wB_t (mT1 (j := 56) rfl) rfl
theorem k23 : Cond.fieldLink RX9 30 "FrostHouse$Tokens" "spellingMix" "[I" ∈ wB := wB_t (mT1 (j := 57) rfl) rfl
theorem k24 : Cond.fieldLink RX9 33 "FrostHouse$Tokens" "text" "[B" ∈ wB := wB_t (mT1 (j := 59) rfl) rfl
theorem k25 : Cond.methodLink RX3 11 yX9_init ∈ wB := wB_t (mT1 (j := 40) rfl) rfl
theorem k26 : Cond.instanceMethod yX9_init ∈ wB := wB_t (mT1 (j := 41) rfl) rfl
theorem k27 : Cond.code yX9_init cX9_init 1 none ∈ wB := wB_t (mT1 (j := 42) rfl) rfl
theorem k28 : Cond.fieldLink RX3 12 "FrostHouse$Maker" "tokens" "LFrostHouse$Tokens;" ∈ wB := wB_t (mT1 (j := 168) rfl) rfl
theorem k29 : Cond.classLink RX3 18 RX0 ∈ wB := wB_t (mT1 (j := 92) rfl) rfl
theorem k30 : Cond.instantiable RX0 18 ∈ wB := wB_t (mT1 (j := 93) rfl) rfl
theorem k31 : Cond.initialized RX0 ∈ wB := wB_t (mT1 (j := 4) rfl) rfl
theorem k32 : Cond.methodLink RX0 3 objectInit ∈ wB := wB_t (mT1 (j := 97) rfl) rfl
theorem k33 : Cond.fieldLink RX0 11 "FrostHouse$Grammar" "className" "[I" ∈ wB := wB_t (mT1 (j := 99) rfl) rfl
theorem k34 : Cond.arrayClass .boolean ∈ wB := wB_t (mT1 (j := 167) rfl) rfl
theorem k35 : Cond.fieldLink RX0 15 "FrostHouse$Grammar" "classRes" "[Z" ∈ wB := wB_t (mT1 (j := 101) rfl) rfl
theorem k36 : Cond.fieldLink RX0 19 "FrostHouse$Grammar" "memberKind" "[I" ∈ wB := wB_t (mT1 (j := 103) rfl) rfl
theorem k37 : Cond.fieldLink RX0 22 "FrostHouse$Grammar" "memberClass" "[I" ∈ wB := wB_t (mT1 (j := 105) rfl) rfl
theorem k38 : Cond.fieldLink RX0 25 "FrostHouse$Grammar" "memberName" "[I" ∈ wB := wB_t (mT1 (j := 107) rfl) rfl
theorem k39 : Cond.fieldLink RX0 28 "FrostHouse$Grammar" "memberType" "[I" ∈ wB := wB_t (mT1 (j := 109) rfl) rfl
theorem k40 : Cond.fieldLink RX0 31 "FrostHouse$Grammar" "memberNumber" "[I" ∈ wB := wB_t (mT1 (j := 111) rfl) rfl
theorem k41 : Cond.fieldLink RX0 34 "FrostHouse$Grammar" "memberParameters" "[I" ∈ wB := wB_t (mT1 (j := 113) rfl) rfl
theorem k42 : Cond.fieldLink RX0 37 "FrostHouse$Grammar" "memberStatic" "[Z" ∈ wB := wB_t (mT1 (j := 115) rfl) rfl
theorem k43 : Cond.fieldLink RX0 40 "FrostHouse$Grammar" "tokens" "LFrostHouse$Tokens;" ∈ wB := wB_t (mT1 (j := 98) rfl) rfl
theorem k44 : Cond.methodLink RX3 20 yX0_init ∈ wB := wB_t (mT1 (j := 94) rfl) rfl
theorem k45 : Cond.instanceMethod yX0_init ∈ wB := wB_t (mT1 (j := 95) rfl) rfl
theorem k46 : Cond.code yX0_init cX0_init 2 none ∈ wB := wB_t (mT1 (j := 96) rfl) rfl
theorem k47 : Cond.fieldLink RX3 23 "FrostHouse$Maker" "grammar" "LFrostHouse$Grammar;" ∈ wB := wB_t (mT1 (j := 169) rfl) rfl
theorem k48 : Cond.fieldLink RX3 27 "FrostHouse$Maker" "faults" "[I" ∈ wB := wB_t (mT1 (j := 170) rfl) rfl
theorem k49 : Cond.fieldLink RX3 31 "FrostHouse$Maker" "variableName" "[I" ∈ wB := wB_t (mT1 (j := 171) rfl) rfl
theorem k50 : Cond.fieldLink RX3 34 "FrostHouse$Maker" "variableType" "[I" ∈ wB := wB_t (mT1 (j := 172) rfl) rfl
theorem k51 : Cond.fieldLink RX3 37 "FrostHouse$Maker" "stackType" "[I" ∈ wB := wB_t (mT1 (j := 173) rfl) rfl
theorem k52 : Cond.instanceMethod yX3_init ∈ wB := wB_t (mT1 (j := 35) rfl) rfl
theorem k53 : Cond.code yX3_init cX3_init 1 none ∈ wB := wB_t (mT1 (j := 36) rfl) rfl
theorem k54 : Cond.fieldLink RX11 20 "FrostHouse" "maker" "LFrostHouse$Maker;" ∈ wB := wB_t (mT4 (j := 195) rfl) rfl
theorem k55 : Cond.classLink RX11 24 RX7 ∈ wB := wB_t (mT1 (j := 229) rfl) rfl
theorem k56 : Cond.instantiable RX7 7 ∈ wB := wB_t (mT1 (j := 230) rfl) rfl
theorem k57 : Cond.initialized RX7 ∈ wB := wB_t (mT1 (j := 5) rfl) rfl
theorem k58 : Cond.methodLink RX7 3 objectInit ∈ wB := wB_t (mT1 (j := 234) rfl) rfl
theorem k59 : Cond.fieldLink RX7 9 "FrostHouse$Runner" "digits" "[I" ∈ wB := wB_t (mT1 (j := 235) rfl) rfl
theorem k60 : Cond.instanceMethod yX7_init ∈ wB := wB_t (mT1 (j := 232) rfl) rfl
theorem k61 : Cond.code yX7_init cX7_init 1 none ∈ wB := wB_t (mT1 (j := 233) rfl) rfl
theorem k62 : Cond.fieldLink RX11 27 "FrostHouse" "runner" "LFrostHouse$Runner;" ∈ wB := wB_t (mT4 (j := 196) rfl) rfl
theorem k63 : Cond.classLink RX11 31 RX10 ∈ wB := wB_t (mT2 (j := 17) rfl) rfl
theorem k64 : Cond.instantiable RX10 9 ∈ wB := wB_t (mT2 (j := 18) rfl) rfl
theorem k65 : Cond.initialized RX10 ∈ wB := wB_t (mT1 (j := 6) rfl) rfl
theorem k66 : Cond.methodLink RX10 3 objectInit ∈ wB := wB_t (mT2 (j := 22) rfl) rfl
theorem k67 : Cond.fieldLink RX10 9 "FrostHouse$Writer" "row" "[B" ∈ wB := wB_t (mT2 (j := 23) rfl) rfl
theorem k68 : Cond.methodLink RX11 33 yX10_init ∈ wB := wB_t (mT2 (j := 19) rfl) rfl
theorem k69 : Cond.instanceMethod yX10_init ∈ wB := wB_t (mT2 (j := 20) rfl) rfl
theorem k70 : Cond.code yX10_init cX10_init 1 none ∈ wB := wB_t (mT2 (j := 21) rfl) rfl
theorem k71 : Cond.fieldLink RX11 34 "FrostHouse" "writer" "LFrostHouse$Writer;" ∈ wB := wB_t (mT4 (j := 197) rfl) rfl
theorem k72 : Cond.classLink RX11 38 RX5 ∈ wB := wB_t (mT2 (j := 51) rfl) rfl
theorem k73 : Cond.instantiable RX5 19 ∈ wB := wB_t (mT2 (j := 52) rfl) rfl
theorem k74 : Cond.initialized RX5 ∈ wB := wB_t (mT1 (j := 7) rfl) rfl
theorem k75 : Cond.methodLink RX5 3 objectInit ∈ wB := wB_t (mT2 (j := 56) rfl) rfl
theorem k76 : Cond.fieldLink RX5 9 "FrostHouse$Reader" "monitorObject" "[I" ∈ wB := wB_t (mT2 (j := 57) rfl) rfl
theorem k77 : Cond.fieldLink RX5 15 "FrostHouse$Reader" "monitorOwner" "[I" ∈ wB := wB_t (mT2 (j := 59) rfl) rfl
theorem k78 : Cond.fieldLink RX5 18 "FrostHouse$Reader" "monitorOften" "[I" ∈ wB := wB_t (mT2 (j := 61) rfl) rfl
theorem k79 : Cond.fieldLink RX5 21 "FrostHouse$Reader" "queueSize" "[I" ∈ wB := wB_t (mT2 (j := 63) rfl) rfl
theorem k80 : Cond.fieldLink RX5 24 "FrostHouse$Reader" "queue" "[I" ∈ wB := wB_t (mT2 (j := 65) rfl) rfl
theorem k81 : Cond.fieldLink RX5 27 "FrostHouse$Reader" "waiterSize" "[I" ∈ wB := wB_t (mT2 (j := 67) rfl) rfl
theorem k82 : Cond.fieldLink RX5 30 "FrostHouse$Reader" "waiter" "[I" ∈ wB := wB_t (mT2 (j := 69) rfl) rfl
theorem k83 : Cond.fieldLink RX5 33 "FrostHouse$Reader" "start" "[I" ∈ wB := wB_t (mT2 (j := 75) rfl) rfl
theorem k84 : Cond.fieldLink RX5 36 "FrostHouse$Reader" "stop" "[I" ∈ wB := wB_t (mT2 (j := 76) rfl) rfl
theorem k85 : Cond.fieldLink RX5 39 "FrostHouse$Reader" "tape" "[B" ∈ wB := wB_t (mT2 (j := 77) rfl) rfl
theorem k86 : Cond.methodLink RX11 40 yX5_init ∈ wB := wB_t (mT2 (j := 53) rfl) rfl
theorem k87 : Cond.instanceMethod yX5_init ∈ wB := wB_t (mT2 (j := 54) rfl) rfl
theorem k88 : Cond.code yX5_init cX5_init 1 none ∈ wB := wB_t (mT2 (j := 55) rfl) rfl
theorem k89 : Cond.fieldLink RX11 41 "FrostHouse" "reader" "LFrostHouse$Reader;" ∈ wB := wB_t (mT4 (j := 198) rfl) rfl
theorem k90 : Cond.classLink RX11 45 RX6 ∈ wB := wB_t (mT2 (j := 124) rfl) rfl
theorem k91 : Cond.instantiable RX6 5 ∈ wB := wB_t (mT2 (j := 125) rfl) rfl
theorem k92 : Cond.initialized RX6 ∈ wB := wB_t (mT1 (j := 8) rfl) rfl
theorem k93 : Cond.methodLink RX6 3 objectInit ∈ wB := wB_t (mT2 (j := 129) rfl) rfl
theorem k94 : Cond.instanceMethod yX6_init ∈ wB := wB_t (mT2 (j := 127) rfl) rfl
theorem k95 : Cond.code yX6_init cX6_init 1 none ∈ wB := wB_t (mT2 (j := 128) rfl) rfl
theorem k96 : Cond.fieldLink RX11 48 "FrostHouse" "rules" "LFrostHouse$Rules;" ∈ wB := wB_t (mT4 (j := 199) rfl) rfl
theorem k97 : Cond.classLink RX11 52 RX2 ∈ wB := wB_t (mT2 (j := 146) rfl) rfl
theorem k98 : Cond.instantiable RX2 20 ∈ wB := wB_t (mT2 (j := 147) rfl) rfl
theorem k99 : Cond.initialized RX2 ∈ wB := wB_t (mT1 (j := 9) rfl) rfl
theorem k100 : Cond.methodLink RX2 3 objectInit ∈ wB := wB_t (mT2 (j := 151) rfl) rfl
theorem k101 : Cond.classLink RX2 9 RX4 ∈ wB := wB_t (mT2 (j := 152) rfl) rfl
theorem k102 : Cond.instantiable RX4 19 ∈ wB := wB_t (mT2 (j := 153) rfl) rfl
theorem k103 : Cond.initialized RX4 ∈ wB := wB_t (mT1 (j := 10) rfl) rfl
theorem k104 : Cond.methodLink RX4 3 objectInit ∈ wB := wB_t (mT2 (j := 157) rfl) rfl
theorem k105 : Cond.fieldLink RX4 9 "FrostHouse$Program" "text" "[B" ∈ wB := wB_t (mT2 (j := 158) rfl) rfl
theorem k106 : Cond.fieldLink RX4 15 "FrostHouse$Program" "methodFacts" "[I" ∈ wB := wB_t (mT2 (j := 162) rfl) rfl
theorem k107 : Cond.fieldLink RX4 19 "FrostHouse$Program" "classFacts" "[I" ∈ wB := wB_t (mT2 (j := 165) rfl) rfl
theorem k108 : Cond.fieldLink RX4 22 "FrostHouse$Program" "fieldType" "[I" ∈ wB := wB_t (mT2 (j := 167) rfl) rfl
theorem k109 : Cond.fieldLink RX4 25 "FrostHouse$Program" "staticType" "[I" ∈ wB := wB_t (mT2 (j := 173) rfl) rfl
theorem k110 : Cond.fieldLink RX4 28 "FrostHouse$Program" "staticClass" "[I" ∈ wB := wB_t (mT2 (j := 179) rfl) rfl
theorem k111 : Cond.fieldLink RX4 31 "FrostHouse$Program" "stringPlace" "[I" ∈ wB := wB_t (mT2 (j := 181) rfl) rfl
theorem k112 : Cond.fieldLink RX4 34 "FrostHouse$Program" "stringSize" "[I" ∈ wB := wB_t (mT2 (j := 184) rfl) rfl
theorem k113 : Cond.fieldLink RX4 37 "FrostHouse$Program" "code" "[I" ∈ wB := wB_t (mT2 (j := 187) rfl) rfl
theorem k114 : Cond.fieldLink RX4 40 "FrostHouse$Program" "number" "[I" ∈ wB := wB_t (mT2 (j := 192) rfl) rfl
theorem k115 : Cond.fieldLink RX4 43 "FrostHouse$Program" "handler" "[I" ∈ wB := wB_t (mT2 (j := 196) rfl) rfl
theorem k116 : Cond.fieldLink RX4 46 "FrostHouse$Program" "stand" "[I" ∈ wB := wB_t (mT2 (j := 199) rfl) rfl
theorem k117 : Cond.arrayClass .long ∈ wB := wB_t (mT3 (j := 28) rfl) rfl
theorem k118 : Cond.fieldLink RX4 49 "FrostHouse$Program" "variableTypes" "[J" ∈ wB := wB_t (mT2 (j := 201) rfl) rfl
theorem k119 : Cond.fieldLink RX4 53 "FrostHouse$Program" "stackTypes" "[J" ∈ wB := wB_t (mT2 (j := 203) rfl) rfl
theorem k120 : Cond.instanceMethod yX4_init ∈ wB := wB_t (mT2 (j := 155) rfl) rfl
theorem k121 : Cond.code yX4_init cX4_init 1 none ∈ wB := wB_t (mT2 (j := 156) rfl) rfl
theorem k122 : Cond.fieldLink RX2 12 "FrostHouse$Machine" "program" "LFrostHouse$Program;" ∈ wB := wB_t (mT4 (j := 66) rfl) rfl
theorem k123 : Cond.classLink RX2 18 RX1 ∈ wB := wB_t (mT3 (j := 29) rfl) rfl
theorem k124 : Cond.instantiable RX1 18 ∈ wB := wB_t (mT3 (j := 30) rfl) rfl
theorem k125 : Cond.initialized RX1 ∈ wB := wB_t (mT1 (j := 11) rfl) rfl
theorem k126 : Cond.methodLink RX1 3 objectInit ∈ wB := wB_t (mT3 (j := 34) rfl) rfl
theorem k127 : Cond.fieldLink RX1 11 "FrostHouse$Heap" "kind" "[I" ∈ wB := wB_t (mT3 (j := 35) rfl) rfl
theorem k128 : Cond.fieldLink RX1 15 "FrostHouse$Heap" "hash" "[I" ∈ wB := wB_t (mT3 (j := 40) rfl) rfl
theorem k129 : Cond.fieldLink RX1 18 "FrostHouse$Heap" "size" "[I" ∈ wB := wB_t (mT3 (j := 45) rfl) rfl
theorem k130 : Cond.fieldLink RX1 21 "FrostHouse$Heap" "cell" "[I" ∈ wB := wB_t (mT3 (j := 50) rfl) rfl
theorem k131 : Cond.fieldLink RX1 24 "FrostHouse$Heap" "owner" "[I" ∈ wB := wB_t (mT3 (j := 56) rfl) rfl
theorem k132 : Cond.fieldLink RX1 27 "FrostHouse$Heap" "often" "[I" ∈ wB := wB_t (mT3 (j := 60) rfl) rfl
theorem k133 : Cond.fieldLink RX1 30 "FrostHouse$Heap" "number" "[I" ∈ wB := wB_t (mT3 (j := 64) rfl) rfl
theorem k134 : Cond.fieldLink RX1 33 "FrostHouse$Heap" "order" "[I" ∈ wB := wB_t (mT3 (j := 66) rfl) rfl
theorem k135 : Cond.fieldLink RX1 36 "FrostHouse$Heap" "interned" "[I" ∈ wB := wB_t (mT3 (j := 69) rfl) rfl
theorem k136 : Cond.fieldLink RX1 39 "FrostHouse$Heap" "registered" "[I" ∈ wB := wB_t (mT3 (j := 75) rfl) rfl
theorem k137 : Cond.fieldLink RX1 42 "FrostHouse$Heap" "list" "[I" ∈ wB := wB_t (mT3 (j := 80) rfl) rfl
theorem k138 : Cond.fieldLink RX1 45 "FrostHouse$Heap" "statics" "[I" ∈ wB := wB_t (mT3 (j := 86) rfl) rfl
theorem k139 : Cond.instanceMethod yX1_init ∈ wB := wB_t (mT3 (j := 32) rfl) rfl
theorem k140 : Cond.code yX1_init cX1_init 1 none ∈ wB := wB_t (mT3 (j := 33) rfl) rfl
theorem k141 : Cond.fieldLink RX2 21 "FrostHouse$Machine" "heap" "LFrostHouse$Heap;" ∈ wB := wB_t (mT4 (j := 72) rfl) rfl
theorem k142 : Cond.classLink RX2 25 RX8 ∈ wB := wB_t (mT3 (j := 154) rfl) rfl
theorem k143 : Cond.instantiable RX8 20 ∈ wB := wB_t (mT3 (j := 155) rfl) rfl
theorem k144 : Cond.initialized RX8 ∈ wB := wB_t (mT1 (j := 12) rfl) rfl
theorem k145 : Cond.methodLink RX8 3 objectInit ∈ wB := wB_t (mT3 (j := 159) rfl) rfl
theorem k146 : Cond.fieldLink RX8 9 "FrostHouse$Threads" "state" "[I" ∈ wB := wB_t (mT3 (j := 160) rfl) rfl
theorem k147 : Cond.fieldLink RX8 15 "FrostHouse$Threads" "interrupted" "[Z" ∈ wB := wB_t (mT3 (j := 166) rfl) rfl
theorem k148 : Cond.fieldLink RX8 19 "FrostHouse$Threads" "deadBy" "[I" ∈ wB := wB_t (mT3 (j := 172) rfl) rfl
theorem k149 : Cond.fieldLink RX8 22 "FrostHouse$Threads" "time" "[J" ∈ wB := wB_t (mT3 (j := 178) rfl) rfl
theorem k150 : Cond.fieldLink RX8 26 "FrostHouse$Threads" "object" "[I" ∈ wB := wB_t (mT3 (j := 183) rfl) rfl
theorem k151 : Cond.fieldLink RX8 29 "FrostHouse$Threads" "had" "[I" ∈ wB := wB_t (mT3 (j := 189) rfl) rfl
theorem k152 : Cond.fieldLink RX8 32 "FrostHouse$Threads" "outcome" "[I" ∈ wB := wB_t (mT3 (j := 194) rfl) rfl
theorem k153 : Cond.fieldLink RX8 35 "FrostHouse$Threads" "joined" "[I" ∈ wB := wB_t (mT3 (j := 199) rfl) rfl
theorem k154 : Cond.fieldLink RX8 38 "FrostHouse$Threads" "wanted" "[I" ∈ wB := wB_t (mT3 (j := 204) rfl) rfl
theorem k155 : Cond.fieldLink RX8 41 "FrostHouse$Threads" "stamp" "[I" ∈ wB := wB_t (mT3 (j := 209) rfl) rfl
theorem k156 : Cond.fieldLink RX8 44 "FrostHouse$Threads" "frames" "[I" ∈ wB := wB_t (mT3 (j := 211) rfl) rfl
theorem k157 : Cond.fieldLink RX8 47 "FrostHouse$Threads" "method" "[I" ∈ wB := wB_t (mT3 (j := 217) rfl) rfl
theorem k158 : Cond.fieldLink RX8 50 "FrostHouse$Threads" "pc" "[I" ∈ wB := wB_t (mT3 (j := 223) rfl) rfl
theorem k159 : Cond.fieldLink RX8 53 "FrostHouse$Threads" "stackSize" "[I" ∈ wB := wB_t (mT3 (j := 228) rfl) rfl
theorem k160 : Cond.fieldLink RX8 56 "FrostHouse$Threads" "heldSize" "[I" ∈ wB := wB_t (mT3 (j := 234) rfl) rfl
theorem k161 : Cond.fieldLink RX8 59 "FrostHouse$Threads" "variable" "[I" ∈ wB := wB_t (mT4 (j := 0) rfl) rfl
theorem k162 : Cond.fieldLink RX8 62 "FrostHouse$Threads" "stack" "[I" ∈ wB := wB_t (mT4 (j := 6) rfl) rfl
theorem k163 : Cond.fieldLink RX8 65 "FrostHouse$Threads" "held" "[I" ∈ wB := wB_t (mT4 (j := 11) rfl) rfl
theorem k164 : Cond.instanceMethod yX8_init ∈ wB := wB_t (mT3 (j := 157) rfl) rfl
theorem k165 : Cond.code yX8_init cX8_init 1 none ∈ wB := wB_t (mT3 (j := 158) rfl) rfl
theorem k166 : Cond.fieldLink RX2 28 "FrostHouse$Machine" "threads" "LFrostHouse$Threads;" ∈ wB := wB_t (mT4 (j := 77) rfl) rfl
theorem k167 : Cond.fieldLink RX2 32 "FrostHouse$Machine" "out" "[B" ∈ wB := wB_t (mT4 (j := 83) rfl) rfl
theorem k168 : Cond.fieldLink RX2 36 "FrostHouse$Machine" "classState" "[I" ∈ wB := wB_t (mT4 (j := 85) rfl) rfl
theorem k169 : Cond.fieldLink RX2 40 "FrostHouse$Machine" "classThread" "[I" ∈ wB := wB_t (mT4 (j := 90) rfl) rfl
theorem k170 : Cond.fieldLink RX2 43 "FrostHouse$Machine" "failures" "[I" ∈ wB := wB_t (mT4 (j := 95) rfl) rfl
theorem k171 : Cond.fieldLink RX2 46 "FrostHouse$Machine" "status" "I" ∈ wB := wB_t (mT4 (j := 99) rfl) rfl
theorem k172 : Cond.fieldLink RX2 50 "FrostHouse$Machine" "pointThread" "I" ∈ wB := wB_t (mT4 (j := 132) rfl) rfl
theorem k173 : Cond.methodLink RX11 54 yX2_init ∈ wB := wB_t (mT2 (j := 148) rfl) rfl
theorem k174 : Cond.instanceMethod yX2_init ∈ wB := wB_t (mT2 (j := 149) rfl) rfl
theorem k175 : Cond.code yX2_init cX2_init 1 none ∈ wB := wB_t (mT2 (j := 150) rfl) rfl
theorem k176 : Cond.fieldLink RX11 55 "FrostHouse" "machine" "LFrostHouse$Machine;" ∈ wB := wB_t (mT4 (j := 200) rfl) rfl
theorem k177 : Cond.fieldLink RX11 59 "FrostHouse" "spare" "LFrostHouse$Machine;" ∈ wB := wB_t (mT4 (j := 201) rfl) rfl
theorem k178 : Cond.fieldLink RX11 62 "FrostHouse" "loadPlace" "I" ∈ wB := wB_t (mT4 (j := 205) rfl) rfl
theorem k179 : Cond.fieldLink RX11 66 "FrostHouse" "restorePlace" "I" ∈ wB := wB_t (mT4 (j := 207) rfl) rfl
theorem k180 : Cond.fieldLink RX11 69 "FrostHouse" "tapeLength" "I" ∈ wB := wB_t (mT4 (j := 202) rfl) rfl
theorem k181 : Cond.constant RX11 72 (64980) ∈ wB := wB_t (mT5 (j := 3) rfl) rfl
theorem k182 : Cond.methodLink RX11 73 yX11_setFour ∈ wB := wB_t (mT5 (j := 4) rfl) rfl
theorem k183 : Cond.static yX11_setFour ∈ wB := wB_t (mT5 (j := 5) rfl) rfl
theorem k184 : Cond.initialized RX11 ∈ wB := wB_t (mT1 (j := 1) rfl) rfl
theorem k185 : Cond.code yX11_setFour cX11_setFour 3 none ∈ wB := wB_t (mT5 (j := 6) rfl) rfl
theorem k186 : Cond.fieldLink RX11 77 "FrostHouse$Machine" "program" "LFrostHouse$Program;" ∈ wB := wB_t (mT4 (j := 71) rfl) rfl
theorem k187 : Cond.fieldLink RX4 56 "FrostHouse$Program" "length" "I" ∈ wB := wB_t (mT2 (j := 205) rfl) rfl
theorem k188 : Cond.methodLink RX4 60 Lib.Math.min.name ∈ wB := wB_t (mT5 (j := 19) rfl) rfl
theorem k189 : Cond.static Lib.Math.min.name ∈ wB := wB_t (mT5 (j := 20) rfl) rfl
theorem k190 : Cond.initialized "java/lang/Math" ∈ wB := wB_t (mT1 (j := 14) rfl) rfl
theorem k191 : Cond.code Lib.Math.min.name Lib.Math.min.code 2 (some .int) ∈ wB := wB_t (mT5 (j := 21) rfl) rfl
theorem k192 : Cond.methodLink RX4 66 arraycopyName ∈ wB := wB_t (mT5 (j := 22) rfl) rfl
theorem k193 : Cond.native arraycopyName ∈ wB := wB_t (mT5 (j := 24) rfl) rfl
theorem k194 : Cond.static arraycopyName ∈ wB := wB_t (mT5 (j := 23) rfl) rfl
theorem k195 : Cond.initialized "java/lang/System" ∈ wB := wB_t (mT1 (j := 15) rfl) rfl
theorem k196 : Cond.methodLink RX11 81 yX4_setText ∈ wB := wB_t (mT5 (j := 15) rfl) rfl
theorem k197 : Cond.instanceMethod yX4_setText ∈ wB := wB_t (mT5 (j := 16) rfl) rfl
theorem k198 : Cond.selects RX4 yX4_setText yX4_setText ∈ wB := wB_t (mT5 (j := 17) rfl) rfl
theorem k199 : Cond.code yX4_setText cX4_setText 4 none ∈ wB := wB_t (mT5 (j := 18) rfl) rfl
theorem k200 : Cond.fieldLink RX3 40 "FrostHouse$Maker" "program" "LFrostHouse$Program;" ∈ wB := wB_t (mT1 (j := 174) rfl) rfl
theorem k201 : Cond.constant RX3 44 (2147483647) ∈ wB := wB_t (mT5 (j := 29) rfl) rfl
theorem k202 : Cond.methodLink RX3 45 yJ7_fill_53178 ∈ wB := wB_t (mT5 (j := 30) rfl) rfl
theorem k203 : Cond.static yJ7_fill_53178 ∈ wB := wB_t (mT5 (j := 31) rfl) rfl
theorem k204 : Cond.initialized "java/util/Arrays" ∈ wB := wB_t (mT1 (j := 16) rfl) rfl
theorem k205 : Cond.code yJ7_fill_53178 cJ7_fill_53178 4 none ∈ wB := wB_t (mT5 (j := 32) rfl) rfl
theorem k206 : Cond.fieldLink RX3 51 "FrostHouse$Program" "length" "I" ∈ wB := wB_t (mT2 (j := 206) rfl) rfl
theorem k207 : Cond.fieldLink RX3 61 "FrostHouse$Program" "text" "[B" ∈ wB := wB_t (mT2 (j := 159) rfl) rfl
theorem k208 : Cond.methodLink RX9 37 Lib.Math.min.name ∈ wB := wB_t (mT5 (j := 42) rfl) rfl
theorem k209 : Cond.fieldLink RX9 43 "FrostHouse$Tokens" "length" "I" ∈ wB := wB_t (mT1 (j := 60) rfl) rfl
theorem k210 : Cond.fieldLink RX9 47 "FrostHouse$Tokens" "count" "I" ∈ wB := wB_t (mT1 (j := 62) rfl) rfl
theorem k211 : Cond.fieldLink RX9 50 "FrostHouse$Tokens" "strings" "I" ∈ wB := wB_t (mT1 (j := 64) rfl) rfl
theorem k212 : Cond.fieldLink RX9 53 "FrostHouse$Tokens" "spellings" "I" ∈ wB := wB_t (mT1 (j := 58) rfl) rfl
theorem k213 : Cond.methodLink RX9 62 yX9_add ∈ wB := wB_t (mT5 (j := 64) rfl) rfl
theorem k214 : Cond.instanceMethod yX9_add ∈ wB := wB_t (mT5 (j := 66) rfl) rfl
theorem k215 : Cond.selects RX9 yX9_add yX9_add ∈ wB := wB_p (n := 12) (List.mem_of_getElem? (i := 0) rfl)
theorem k216 : Cond.code yX9_add cX9_add 5 none ∈ wB := wB_t (mT5 (j := 67) rfl) rfl
theorem k217 : Cond.methodLink RX3 65 yX9_readAll ∈ wB := wB_t (mT5 (j := 38) rfl) rfl
theorem k218 : Cond.instanceMethod yX9_readAll ∈ wB := wB_t (mT5 (j := 39) rfl) rfl
theorem k219 : Cond.selects RX9 yX9_readAll yX9_readAll ∈ wB := wB_t (mT5 (j := 40) rfl) rfl
theorem k220 : Cond.code yX9_readAll cX9_readAll 5 none ∈ wB := wB_t (mT5 (j := 41) rfl) rfl
theorem k221 : Cond.fieldLink RX0 44 "FrostHouse$Grammar" "classes" "I" ∈ wB := wB_t (mT1 (j := 117) rfl) rfl
theorem k222 : Cond.fieldLink RX0 48 "FrostHouse$Grammar" "members" "I" ∈ wB := wB_t (mT1 (j := 119) rfl) rfl
theorem k223 : Cond.fieldLink RX0 51 "FrostHouse$Grammar" "methods" "I" ∈ wB := wB_t (mT1 (j := 121) rfl) rfl
theorem k224 : Cond.fieldLink RX0 54 "FrostHouse$Grammar" "statics" "I" ∈ wB := wB_t (mT1 (j := 123) rfl) rfl
theorem k225 : Cond.fieldLink RX0 57 "FrostHouse$Grammar" "badPlace" "I" ∈ wB := wB_t (mT1 (j := 125) rfl) rfl
theorem k226 : Cond.fieldLink RX0 60 "FrostHouse$Grammar" "at" "I" ∈ wB := wB_t (mT1 (j := 128) rfl) rfl
theorem k227 : Cond.fieldLink RX0 63 "FrostHouse$Grammar" "depth" "I" ∈ wB := wB_t (mT1 (j := 129) rfl) rfl
theorem k228 : Cond.fieldLink RX0 125 "FrostHouse$Tokens" "kind" "[I" ∈ wB := wB_t (mT1 (j := 46) rfl) rfl
theorem k229 : Cond.methodLink RX0 86 yX0_accept ∈ wB := wB_t (mT5 (j := 219) rfl) rfl
theorem k230 : Cond.instanceMethod yX0_accept ∈ wB := wB_t (mT5 (j := 221) rfl) rfl
theorem k231 : Cond.selects RX0 yX0_accept yX0_accept ∈ wB := wB_p (n := 18) (List.mem_of_getElem? (i := 1) rfl)
theorem k232 : Cond.code yX0_accept cX0_accept 3 (some .boolean) ∈ wB := wB_t (mT5 (j := 222) rfl) rfl
theorem k233 : Cond.fieldLink RX0 156 "FrostHouse$Tokens" "place" "[I" ∈ wB := wB_t (mT1 (j := 49) rfl) rfl
theorem k234 : Cond.methodLink RX0 82 yX0_need ∈ wB := wB_t (mT5 (j := 223) rfl) rfl
theorem k235 : Cond.instanceMethod yX0_need ∈ wB := wB_t (mT5 (j := 225) rfl) rfl
theorem k236 : Cond.selects RX0 yX0_need yX0_need ∈ wB := wB_p (n := 18) (List.mem_of_getElem? (i := 2) rfl)
theorem k237 : Cond.code yX0_need cX0_need 4 none ∈ wB := wB_t (mT5 (j := 226) rfl) rfl
theorem k238 : Cond.fieldLink RX0 90 "FrostHouse$Grammar" "fields" "I" ∈ wB := wB_t (mT1 (j := 127) rfl) rfl
theorem k239 : Cond.methodLink RX0 66 yX0_readClassHead ∈ wB := wB_t (mT5 (j := 215) rfl) rfl
theorem k240 : Cond.instanceMethod yX0_readClassHead ∈ wB := wB_t (mT5 (j := 217) rfl) rfl
theorem k241 : Cond.selects RX0 yX0_readClassHead yX0_readClassHead ∈ wB := wB_p (n := 18) (List.mem_of_getElem? (i := 3) rfl)
theorem k242 : Cond.code yX0_readClassHead cX0_readClassHead 2 none ∈ wB := wB_t (mT5 (j := 218) rfl) rfl
theorem k243 : Cond.methodLink RX0 69 yX0_isGood ∈ wB := wB_t (mT5 (j := 227) rfl) rfl
theorem k244 : Cond.instanceMethod yX0_isGood ∈ wB := wB_t (mT5 (j := 229) rfl) rfl
theorem k245 : Cond.selects RX0 yX0_isGood yX0_isGood ∈ wB := wB_p (n := 18) (List.mem_of_getElem? (i := 4) rfl)
theorem k246 : Cond.code yX0_isGood cX0_isGood 1 (some .boolean) ∈ wB := wB_t (mT5 (j := 230) rfl) rfl
theorem k247 : Cond.methodLink RX3 69 yX0_readProgram ∈ wB := wB_t (mT5 (j := 211) rfl) rfl
theorem k248 : Cond.instanceMethod yX0_readProgram ∈ wB := wB_t (mT5 (j := 212) rfl) rfl
theorem k249 : Cond.selects RX0 yX0_readProgram yX0_readProgram ∈ wB := wB_t (mT5 (j := 213) rfl) rfl
theorem k250 : Cond.code yX0_readProgram cX0_readProgram 4 none ∈ wB := wB_t (mT5 (j := 214) rfl) rfl
theorem k251 : Cond.fieldLink RX3 72 "FrostHouse$Grammar" "badPlace" "I" ∈ wB := wB_t (mT1 (j := 126) rfl) rfl
theorem k252 : Cond.methodLink RX3 100 Lib.Math.min.name ∈ wB := wB_t (mT5 (j := 37) rfl) rfl
theorem k253 : Cond.methodLink RX3 57 yX3_note ∈ wB := wB_t (mT5 (j := 33) rfl) rfl
theorem k254 : Cond.instanceMethod yX3_note ∈ wB := wB_t (mT5 (j := 35) rfl) rfl
theorem k255 : Cond.selects RX3 yX3_note yX3_note ∈ wB := wB_p (n := 20) (List.mem_of_getElem? (i := 5) rfl)
theorem k256 : Cond.code yX3_note cX3_note 3 none ∈ wB := wB_t (mT5 (j := 36) rfl) rfl
theorem k257 : Cond.methodLink RX11 86 yX3_make ∈ wB := wB_t (mT5 (j := 25) rfl) rfl
theorem k258 : Cond.instanceMethod yX3_make ∈ wB := wB_t (mT5 (j := 26) rfl) rfl
theorem k259 : Cond.selects RX3 yX3_make yX3_make ∈ wB := wB_t (mT5 (j := 27) rfl) rfl
theorem k260 : Cond.code yX3_make cX3_make 3 (some .int) ∈ wB := wB_t (mT5 (j := 28) rfl) rfl
theorem k261 : Cond.fieldLink RX11 90 "FrostHouse" "loadKind" "I" ∈ wB := wB_t (mT4 (j := 204) rfl) rfl
theorem k262 : Cond.methodLink RX11 93 yX3_faultPlace ∈ wB := wB_t (mT7 (j := 112) rfl) rfl
theorem k263 : Cond.instanceMethod yX3_faultPlace ∈ wB := wB_t (mT7 (j := 113) rfl) rfl
theorem k264 : Cond.selects RX3 yX3_faultPlace yX3_faultPlace ∈ wB := wB_t (mT7 (j := 114) rfl) rfl
theorem k265 : Cond.code yX3_faultPlace cX3_faultPlace 2 (some .int) ∈ wB := wB_t (mT7 (j := 115) rfl) rfl
theorem k266 : Cond.fieldLink RX11 107 "FrostHouse" "restoreKind" "I" ∈ wB := wB_t (mT4 (j := 206) rfl) rfl
theorem k267 : Cond.fieldLink RX11 110 "FrostHouse$Machine" "status" "I" ∈ wB := wB_t (mT4 (j := 100) rfl) rfl
theorem k268 : Cond.fieldLink RX11 121 "FrostHouse" "imageLength" "I" ∈ wB := wB_t (mT4 (j := 203) rfl) rfl
theorem k269 : Cond.constantLong RX11 127 (-1) ∈ wB := wB_t (mT9 (j := 151) rfl) rfl
theorem k270 : Cond.fieldLink RX11 133 "FrostHouse$Machine" "outCount" "I" ∈ wB := wB_t (mT4 (j := 103) rfl) rfl
theorem k271 : Cond.constantLong RX11 152 (4000000000000000000) ∈ wB := wB_t (mT9 (j := 182) rfl) rfl
theorem k272 : Cond.methodLink RX11 154 yX5_layoutFault ∈ wB := wB_t (mT9 (j := 183) rfl) rfl
theorem k273 : Cond.instanceMethod yX5_layoutFault ∈ wB := wB_t (mT9 (j := 184) rfl) rfl
theorem k274 : Cond.selects RX5 yX5_layoutFault yX5_layoutFault ∈ wB := wB_t (mT9 (j := 185) rfl) rfl
theorem k275 : Cond.code yX5_layoutFault cX5_layoutFault 7 (some .int) ∈ wB := wB_t (mT9 (j := 186) rfl) rfl
theorem k276 : Cond.methodLink RX11 157 yX11_refuse ∈ wB := wB_t (mT9 (j := 191) rfl) rfl
theorem k277 : Cond.instanceMethod yX11_refuse ∈ wB := wB_t (mT9 (j := 193) rfl) rfl
theorem k278 : Cond.selects RX11 yX11_refuse yX11_refuse ∈ wB := wB_p (n := 15) (List.mem_of_getElem? (i := 6) rfl)
theorem k279 : Cond.code yX11_refuse cX11_refuse 3 (some .int) ∈ wB := wB_t (mT9 (j := 194) rfl) rfl
theorem k280 : Cond.methodLink RX12 1127 objectInit ∈ wB := wB_t (mT11 (j := 5) rfl) rfl
theorem k281 : Cond.fieldLink RX12 22 "FrostHouseModel" "text" "[B" ∈ wB := wB_t (mT11 (j := 12) rfl) rfl
theorem k282 : Cond.fieldLink RX12 49 "FrostHouseModel" "sort" "[I" ∈ wB := wB_t (mT11 (j := 14) rfl) rfl
theorem k283 : Cond.fieldLink RX12 11 "FrostHouseModel" "place" "[I" ∈ wB := wB_t (mT11 (j := 15) rfl) rfl
theorem k284 : Cond.fieldLink RX12 59 "FrostHouseModel" "value" "[I" ∈ wB := wB_t (mT11 (j := 16) rfl) rfl
theorem k285 : Cond.fieldLink RX12 46 "FrostHouseModel" "size" "[I" ∈ wB := wB_t (mT11 (j := 17) rfl) rfl
theorem k286 : Cond.fieldLink RX12 76 "FrostHouseModel" "stringNumber" "[I" ∈ wB := wB_t (mT11 (j := 18) rfl) rfl
theorem k287 : Cond.fieldLink RX12 1 "FrostHouseModel" "least" "[I" ∈ wB := wB_t (mT11 (j := 22) rfl) rfl
theorem k288 : Cond.fieldLink RX12 161 "FrostHouseModel" "className" "[I" ∈ wB := wB_t (mT11 (j := 29) rfl) rfl
theorem k289 : Cond.fieldLink RX12 155 "FrostHouseModel" "classRes" "[I" ∈ wB := wB_t (mT11 (j := 30) rfl) rfl
theorem k290 : Cond.fieldLink RX12 192 "FrostHouseModel" "fieldClass" "[I" ∈ wB := wB_t (mT11 (j := 31) rfl) rfl
theorem k291 : Cond.fieldLink RX12 195 "FrostHouseModel" "fieldName" "[I" ∈ wB := wB_t (mT11 (j := 32) rfl) rfl
theorem k292 : Cond.fieldLink RX12 198 "FrostHouseModel" "fieldType" "[I" ∈ wB := wB_t (mT11 (j := 33) rfl) rfl
theorem k293 : Cond.fieldLink RX12 177 "FrostHouseModel" "staticClass" "[I" ∈ wB := wB_t (mT11 (j := 34) rfl) rfl
theorem k294 : Cond.fieldLink RX12 180 "FrostHouseModel" "staticName" "[I" ∈ wB := wB_t (mT11 (j := 35) rfl) rfl
theorem k295 : Cond.fieldLink RX12 183 "FrostHouseModel" "staticType" "[I" ∈ wB := wB_t (mT11 (j := 36) rfl) rfl
theorem k296 : Cond.fieldLink RX12 186 "FrostHouseModel" "staticValue" "[I" ∈ wB := wB_t (mT11 (j := 37) rfl) rfl
theorem k297 : Cond.fieldLink RX12 201 "FrostHouseModel" "methodClass" "[I" ∈ wB := wB_t (mT11 (j := 38) rfl) rfl
theorem k298 : Cond.fieldLink RX12 208 "FrostHouseModel" "methodName" "[I" ∈ wB := wB_t (mT11 (j := 39) rfl) rfl
theorem k299 : Cond.fieldLink RX12 211 "FrostHouseModel" "methodType" "[I" ∈ wB := wB_t (mT11 (j := 40) rfl) rfl
theorem k300 : Cond.fieldLink RX12 214 "FrostHouseModel" "methodParams" "[I" ∈ wB := wB_t (mT11 (j := 41) rfl) rfl
theorem k301 : Cond.fieldLink RX12 226 "FrostHouseModel" "methodBody" "[I" ∈ wB := wB_t (mT11 (j := 42) rfl) rfl
theorem k302 : Cond.fieldLink RX12 217 "FrostHouseModel" "paramFrom" "[I" ∈ wB := wB_t (mT11 (j := 43) rfl) rfl
theorem k303 : Cond.fieldLink RX12 204 "FrostHouseModel" "methodStatic" "[Z" ∈ wB := wB_t (mT11 (j := 44) rfl) rfl
theorem k304 : Cond.fieldLink RX12 223 "FrostHouseModel" "paramName" "[I" ∈ wB := wB_t (mT11 (j := 45) rfl) rfl
theorem k305 : Cond.fieldLink RX12 220 "FrostHouseModel" "paramType" "[I" ∈ wB := wB_t (mT11 (j := 46) rfl) rfl
theorem k306 : Cond.fieldLink RX12 235 "FrostHouseModel" "code" "[I" ∈ wB := wB_t (mT11 (j := 48) rfl) rfl
theorem k307 : Cond.fieldLink RX12 238 "FrostHouseModel" "number" "[I" ∈ wB := wB_t (mT11 (j := 49) rfl) rfl
theorem k308 : Cond.fieldLink RX12 241 "FrostHouseModel" "sights" "[I" ∈ wB := wB_t (mT11 (j := 50) rfl) rfl
theorem k309 : Cond.fieldLink RX12 247 "FrostHouseModel" "stacks" "[I" ∈ wB := wB_t (mT11 (j := 51) rfl) rfl
theorem k310 : Cond.fieldLink RX12 253 "FrostHouseModel" "syncs" "[I" ∈ wB := wB_t (mT11 (j := 52) rfl) rfl
theorem k311 : Cond.fieldLink RX12 259 "FrostHouseModel" "tries" "[I" ∈ wB := wB_t (mT11 (j := 53) rfl) rfl
theorem k312 : Cond.constant RX12 1132 (78000) ∈ wB := wB_t (mT11 (j := 6) rfl) rfl
theorem k313 : Cond.fieldLink RX12 267 "FrostHouseModel" "sightType" "[I" ∈ wB := wB_t (mT11 (j := 54) rfl) rfl
theorem k314 : Cond.constant RX12 1133 (72000) ∈ wB := wB_t (mT11 (j := 7) rfl) rfl
theorem k315 : Cond.fieldLink RX12 273 "FrostHouseModel" "stackType" "[I" ∈ wB := wB_t (mT11 (j := 55) rfl) rfl
theorem k316 : Cond.fieldLink RX12 550 "FrostHouseModel" "begin" "[I" ∈ wB := wB_t (mT11 (j := 56) rfl) rfl
theorem k317 : Cond.fieldLink RX12 553 "FrostHouseModel" "count" "[I" ∈ wB := wB_t (mT11 (j := 57) rfl) rfl
theorem k318 : Cond.fieldLink RX12 556 "FrostHouseModel" "most" "[I" ∈ wB := wB_t (mT11 (j := 58) rfl) rfl
theorem k319 : Cond.fieldLink RX12 285 "FrostHouseModel" "deepest" "[I" ∈ wB := wB_t (mT11 (j := 59) rfl) rfl
theorem k320 : Cond.fieldLink RX12 379 "FrostHouseModel" "tryAround" "[I" ∈ wB := wB_t (mT11 (j := 62) rfl) rfl
theorem k321 : Cond.fieldLink RX12 382 "FrostHouseModel" "tryAt" "[I" ∈ wB := wB_t (mT11 (j := 63) rfl) rfl
theorem k322 : Cond.fieldLink RX12 304 "FrostHouseModel" "varName" "[I" ∈ wB := wB_t (mT11 (j := 73) rfl) rfl
theorem k323 : Cond.fieldLink RX12 270 "FrostHouseModel" "varType" "[I" ∈ wB := wB_t (mT11 (j := 74) rfl) rfl
theorem k324 : Cond.fieldLink RX12 276 "FrostHouseModel" "stack" "[I" ∈ wB := wB_t (mT11 (j := 75) rfl) rfl
theorem k325 : Cond.fieldLink RX12 887 "FrostHouseModel" "out" "[B" ∈ wB := wB_t (mT11 (j := 95) rfl) rfl
theorem k326 : Cond.fieldLink RX12 597 "FrostHouseModel" "classState" "[I" ∈ wB := wB_t (mT11 (j := 96) rfl) rfl
theorem k327 : Cond.fieldLink RX12 822 "FrostHouseModel" "classThread" "[I" ∈ wB := wB_t (mT11 (j := 97) rfl) rfl
theorem k328 : Cond.fieldLink RX12 600 "FrostHouseModel" "statValue" "[I" ∈ wB := wB_t (mT11 (j := 98) rfl) rfl
theorem k329 : Cond.fieldLink RX12 639 "FrostHouseModel" "tState" "[I" ∈ wB := wB_t (mT11 (j := 99) rfl) rfl
theorem k330 : Cond.fieldLink RX12 642 "FrostHouseModel" "tFlag" "[I" ∈ wB := wB_t (mT11 (j := 100) rfl) rfl
theorem k331 : Cond.fieldLink RX12 645 "FrostHouseModel" "tDead" "[I" ∈ wB := wB_t (mT11 (j := 101) rfl) rfl
theorem k332 : Cond.fieldLink RX12 657 "FrostHouseModel" "tThing" "[I" ∈ wB := wB_t (mT11 (j := 102) rfl) rfl
theorem k333 : Cond.fieldLink RX12 660 "FrostHouseModel" "tHad" "[I" ∈ wB := wB_t (mT11 (j := 103) rfl) rfl
theorem k334 : Cond.fieldLink RX12 663 "FrostHouseModel" "tHow" "[I" ∈ wB := wB_t (mT11 (j := 104) rfl) rfl
theorem k335 : Cond.fieldLink RX12 666 "FrostHouseModel" "tJoin" "[I" ∈ wB := wB_t (mT11 (j := 105) rfl) rfl
theorem k336 : Cond.fieldLink RX12 669 "FrostHouseModel" "tClass" "[I" ∈ wB := wB_t (mT11 (j := 106) rfl) rfl
theorem k337 : Cond.fieldLink RX12 651 "FrostHouseModel" "tFrames" "[I" ∈ wB := wB_t (mT11 (j := 107) rfl) rfl
theorem k338 : Cond.fieldLink RX12 756 "FrostHouseModel" "tOrder" "[I" ∈ wB := wB_t (mT11 (j := 108) rfl) rfl
theorem k339 : Cond.fieldLink RX12 672 "FrostHouseModel" "tTime" "[J" ∈ wB := wB_t (mT11 (j := 109) rfl) rfl
theorem k340 : Cond.fieldLink RX12 679 "FrostHouseModel" "fMethod" "[I" ∈ wB := wB_t (mT11 (j := 110) rfl) rfl
theorem k341 : Cond.fieldLink RX12 682 "FrostHouseModel" "fAt" "[I" ∈ wB := wB_t (mT11 (j := 111) rfl) rfl
theorem k342 : Cond.fieldLink RX12 685 "FrostHouseModel" "fDeep" "[I" ∈ wB := wB_t (mT11 (j := 112) rfl) rfl
theorem k343 : Cond.fieldLink RX12 688 "FrostHouseModel" "fHelds" "[I" ∈ wB := wB_t (mT11 (j := 113) rfl) rfl
theorem k344 : Cond.fieldLink RX12 721 "FrostHouseModel" "fVar" "[I" ∈ wB := wB_t (mT11 (j := 114) rfl) rfl
theorem k345 : Cond.fieldLink RX12 724 "FrostHouseModel" "fStack" "[I" ∈ wB := wB_t (mT11 (j := 115) rfl) rfl
theorem k346 : Cond.fieldLink RX12 727 "FrostHouseModel" "fHeld" "[I" ∈ wB := wB_t (mT11 (j := 116) rfl) rfl
theorem k347 : Cond.fieldLink RX12 694 "FrostHouseModel" "oKind" "[I" ∈ wB := wB_t (mT11 (j := 117) rfl) rfl
theorem k348 : Cond.fieldLink RX12 733 "FrostHouseModel" "oHash" "[I" ∈ wB := wB_t (mT11 (j := 118) rfl) rfl
theorem k349 : Cond.fieldLink RX12 736 "FrostHouseModel" "oSize" "[I" ∈ wB := wB_t (mT11 (j := 119) rfl) rfl
theorem k350 : Cond.fieldLink RX12 739 "FrostHouseModel" "oOwner" "[I" ∈ wB := wB_t (mT11 (j := 120) rfl) rfl
theorem k351 : Cond.fieldLink RX12 742 "FrostHouseModel" "oTimes" "[I" ∈ wB := wB_t (mT11 (j := 121) rfl) rfl
theorem k352 : Cond.fieldLink RX12 700 "FrostHouseModel" "oValue" "[I" ∈ wB := wB_t (mT11 (j := 122) rfl) rfl
theorem k353 : Cond.fieldLink RX12 867 "FrostHouseModel" "oByte" "[B" ∈ wB := wB_t (mT11 (j := 123) rfl) rfl
theorem k354 : Cond.fieldLink RX12 603 "FrostHouseModel" "oUsed" "[Z" ∈ wB := wB_t (mT11 (j := 124) rfl) rfl
theorem k355 : Cond.fieldLink RX12 691 "FrostHouseModel" "oMark" "[Z" ∈ wB := wB_t (mT11 (j := 125) rfl) rfl
theorem k356 : Cond.fieldLink RX12 712 "FrostHouseModel" "interned" "[I" ∈ wB := wB_t (mT11 (j := 127) rfl) rfl
theorem k357 : Cond.fieldLink RX12 715 "FrostHouseModel" "registered" "[I" ∈ wB := wB_t (mT11 (j := 128) rfl) rfl
theorem k358 : Cond.fieldLink RX12 709 "FrostHouseModel" "list" "[I" ∈ wB := wB_t (mT11 (j := 129) rfl) rfl
theorem k359 : Cond.fieldLink RX12 819 "FrostHouseModel" "failure" "[I" ∈ wB := wB_t (mT11 (j := 130) rfl) rfl
theorem k360 : Cond.fieldLink RX12 870 "FrostHouseModel" "joined" "[B" ∈ wB := wB_t (mT11 (j := 142) rfl) rfl
theorem k361 : Cond.constant RX12 1134 (85000) ∈ wB := wB_t (mT11 (j := 8) rfl) rfl
theorem k362 : Cond.fieldLink RX12 951 "FrostHouseModel" "image" "[B" ∈ wB := wB_t (mT11 (j := 144) rfl) rfl
theorem k363 : Cond.fieldLink RX12 948 "FrostHouseModel" "other" "[B" ∈ wB := wB_t (mT11 (j := 145) rfl) rfl
theorem k364 : Cond.fieldLink RX12 918 "FrostHouseModel" "to" "[B" ∈ wB := wB_t (mT11 (j := 146) rfl) rfl
theorem k365 : Cond.fieldLink RX12 927 "FrostHouseModel" "numberOf" "[I" ∈ wB := wB_t (mT11 (j := 149) rfl) rfl
theorem k366 : Cond.fieldLink RX12 933 "FrostHouseModel" "thingAt" "[I" ∈ wB := wB_t (mT11 (j := 150) rfl) rfl
theorem k367 : Cond.constant RX12 1135 (65000) ∈ wB := wB_t (mT11 (j := 9) rfl) rfl
theorem k368 : Cond.fieldLink RX12 992 "FrostHouseModel" "tape" "[B" ∈ wB := wB_t (mT11 (j := 152) rfl) rfl
theorem k369 : Cond.fieldLink RX12 998 "FrostHouseModel" "refused" "I" ∈ wB := wB_t (mT11 (j := 156) rfl) rfl
theorem k370 : Cond.fieldLink RX12 1001 "FrostHouseModel" "refusedAt" "I" ∈ wB := wB_t (mT11 (j := 157) rfl) rfl
theorem k371 : Cond.fieldLink RX12 1016 "FrostHouseModel" "section" "[I" ∈ wB := wB_t (mT11 (j := 158) rfl) rfl
theorem k372 : Cond.fieldLink RX12 1004 "FrostHouseModel" "head" "[I" ∈ wB := wB_t (mT11 (j := 159) rfl) rfl
theorem k373 : Cond.fieldLink RX12 1066 "FrostHouseModel" "monitor" "[I" ∈ wB := wB_t (mT11 (j := 162) rfl) rfl
theorem k374 : Cond.fieldLink RX12 1073 "FrostHouseModel" "queues" "[I" ∈ wB := wB_t (mT11 (j := 163) rfl) rfl
theorem k375 : Cond.fieldLink RX12 1070 "FrostHouseModel" "queued" "[I" ∈ wB := wB_t (mT11 (j := 164) rfl) rfl
theorem k376 : Cond.fieldLink RX12 1079 "FrostHouseModel" "sleepers" "[I" ∈ wB := wB_t (mT11 (j := 165) rfl) rfl
theorem k377 : Cond.fieldLink RX12 1076 "FrostHouseModel" "asleep" "[I" ∈ wB := wB_t (mT11 (j := 166) rfl) rfl
theorem k378 : Cond.fieldLink RX12 1136 "FrostHouseModel" "numbers" "[I" ∈ wB := wB_t (mT11 (j := 167) rfl) rfl
theorem k379 : Cond.classLink RX12 1139 "[I" ∈ wB := wB_t (mT11 (j := 10) rfl) rfl
theorem k380 : Cond.fieldLink RX12 1140 "FrostHouseModel" "rows" "[[I" ∈ wB := wB_t (mT11 (j := 168) rfl) rfl
theorem k381 : Cond.fieldLink RX12 1144 "FrostHouseModel" "kept" "[[I" ∈ wB := wB_t (mT11 (j := 169) rfl) rfl
theorem k382 : Cond.fieldLink RX12 1147 "FrostHouseModel" "keptTime" "[J" ∈ wB := wB_t (mT11 (j := 170) rfl) rfl
theorem k383 : Cond.fieldLink RX12 1150 "FrostHouseModel" "keptUsed" "[Z" ∈ wB := wB_t (mT11 (j := 171) rfl) rfl
theorem k384 : Cond.fieldLink RX12 1153 "FrostHouseModel" "keptByte" "[B" ∈ wB := wB_t (mT11 (j := 172) rfl) rfl
theorem k385 : Cond.fieldLink RX12 1156 "FrostHouseModel" "keptText" "[B" ∈ wB := wB_t (mT11 (j := 173) rfl) rfl
theorem k386 : Cond.fieldLink RX12 1159 "FrostHouseModel" "keptLength" "I" ∈ wB := wB_t (mT11 (j := 174) rfl) rfl
theorem k387 : Cond.fieldLink RX12 1162 "FrostHouseModel" "loadKind" "I" ∈ wB := wB_t (mT11 (j := 176) rfl) rfl
theorem k388 : Cond.fieldLink RX12 1165 "FrostHouseModel" "loadAt" "I" ∈ wB := wB_t (mT11 (j := 177) rfl) rfl
theorem k389 : Cond.fieldLink RX12 18 "FrostHouseModel" "length" "I" ∈ wB := wB_t (mT11 (j := 13) rfl) rfl
theorem k390 : Cond.fieldLink RX12 1007 "FrostHouseModel" "fed" "I" ∈ wB := wB_t (mT11 (j := 153) rfl) rfl
theorem k391 : Cond.methodLink RX12 265 Lib.Math.min.name ∈ wB := wB_t (mT13 (j := 53) rfl) rfl
theorem k392 : Cond.fieldLink RX12 232 "FrostHouseModel" "codes" "I" ∈ wB := wB_t (mT11 (j := 60) rfl) rfl
theorem k393 : Cond.fieldLink RX12 376 "FrostHouseModel" "trys" "I" ∈ wB := wB_t (mT11 (j := 64) rfl) rfl
theorem k394 : Cond.fieldLink RX12 37 "FrostHouseModel" "tokens" "I" ∈ wB := wB_t (mT11 (j := 19) rfl) rfl
theorem k395 : Cond.fieldLink RX12 40 "FrostHouseModel" "strings" "I" ∈ wB := wB_t (mT11 (j := 21) rfl) rfl
theorem k396 : Cond.methodLink RX12 506 yX12_readTokens ∈ wB := wB_t (mT13 (j := 62) rfl) rfl
theorem k397 : Cond.instanceMethod yX12_readTokens ∈ wB := wB_t (mT13 (j := 64) rfl) rfl
theorem k398 : Cond.selects RX12 yX12_readTokens yX12_readTokens ∈ wB := wB_p (n := 168) (List.mem_of_getElem? (i := 7) rfl)
theorem k399 : Cond.initialized RX12 ∈ wB := wB_t (mT1 (j := 13) rfl) rfl
theorem k400 : Cond.code yX12_readTokens cX12_readTokens 4 none ∈ wB := wB_t (mT13 (j := 65) rfl) rfl
theorem k401 : Cond.fieldLink RX12 250 "FrostHouseModel" "deep" "I" ∈ wB := wB_t (mT11 (j := 68) rfl) rfl
theorem k402 : Cond.fieldLink RX12 244 "FrostHouseModel" "inSight" "I" ∈ wB := wB_t (mT11 (j := 67) rfl) rfl
theorem k403 : Cond.fieldLink RX12 101 "FrostHouseModel" "at" "I" ∈ wB := wB_t (mT11 (j := 20) rfl) rfl
theorem k404 : Cond.fieldLink RX12 118 "FrostHouseModel" "opened" "I" ∈ wB := wB_t (mT11 (j := 23) rfl) rfl
theorem k405 : Cond.fieldLink RX12 7 "FrostHouseModel" "sure" "Z" ∈ wB := wB_t (mT11 (j := 24) rfl) rfl
theorem k406 : Cond.fieldLink RX12 131 "FrostHouseModel" "classes" "I" ∈ wB := wB_t (mT11 (j := 25) rfl) rfl
theorem k407 : Cond.fieldLink RX12 134 "FrostHouseModel" "methods" "I" ∈ wB := wB_t (mT11 (j := 26) rfl) rfl
theorem k408 : Cond.fieldLink RX12 137 "FrostHouseModel" "fields" "I" ∈ wB := wB_t (mT11 (j := 27) rfl) rfl
theorem k409 : Cond.fieldLink RX12 140 "FrostHouseModel" "statics" "I" ∈ wB := wB_t (mT11 (j := 28) rfl) rfl
theorem k410 : Cond.fieldLink RX12 143 "FrostHouseModel" "params" "I" ∈ wB := wB_t (mT11 (j := 47) rfl) rfl
theorem k411 : Cond.methodLink RX12 158 yX12_isWord ∈ wB := wB_t (mT13 (j := 111) rfl) rfl
theorem k412 : Cond.instanceMethod yX12_isWord ∈ wB := wB_t (mT13 (j := 113) rfl) rfl
theorem k413 : Cond.selects RX12 yX12_isWord yX12_isWord ∈ wB := wB_p (n := 168) (List.mem_of_getElem? (i := 8) rfl)
theorem k414 : Cond.code yX12_isWord cX12_isWord 2 (some .boolean) ∈ wB := wB_t (mT13 (j := 114) rfl) rfl
theorem k415 : Cond.methodLink RX12 104 yX12_good ∈ wB := wB_t (mT13 (j := 119) rfl) rfl
theorem k416 : Cond.instanceMethod yX12_good ∈ wB := wB_t (mT13 (j := 121) rfl) rfl
theorem k417 : Cond.selects RX12 yX12_good yX12_good ∈ wB := wB_p (n := 168) (List.mem_of_getElem? (i := 9) rfl)
theorem k418 : Cond.code yX12_good cX12_good 1 (some .boolean) ∈ wB := wB_t (mT13 (j := 122) rfl) rfl
theorem k419 : Cond.methodLink RX12 14 yX12_wrong ∈ wB := wB_t (mT13 (j := 58) rfl) rfl
theorem k420 : Cond.instanceMethod yX12_wrong ∈ wB := wB_t (mT13 (j := 60) rfl) rfl
theorem k421 : Cond.selects RX12 yX12_wrong yX12_wrong ∈ wB := wB_p (n := 168) (List.mem_of_getElem? (i := 10) rfl)
theorem k422 : Cond.code yX12_wrong cX12_wrong 3 none ∈ wB := wB_t (mT13 (j := 61) rfl) rfl
theorem k423 : Cond.methodLink RX12 111 yX12_bad ∈ wB := wB_t (mT13 (j := 123) rfl) rfl
theorem k424 : Cond.instanceMethod yX12_bad ∈ wB := wB_t (mT13 (j := 125) rfl) rfl
theorem k425 : Cond.selects RX12 yX12_bad yX12_bad ∈ wB := wB_p (n := 168) (List.mem_of_getElem? (i := 11) rfl)
theorem k426 : Cond.code yX12_bad cX12_bad 1 none ∈ wB := wB_t (mT13 (j := 126) rfl) rfl
theorem k427 : Cond.methodLink RX12 115 yX12_next ∈ wB := wB_t (mT13 (j := 115) rfl) rfl
theorem k428 : Cond.instanceMethod yX12_next ∈ wB := wB_t (mT13 (j := 117) rfl) rfl
theorem k429 : Cond.selects RX12 yX12_next yX12_next ∈ wB := wB_p (n := 168) (List.mem_of_getElem? (i := 12) rfl)
theorem k430 : Cond.code yX12_next cX12_next 1 none ∈ wB := wB_t (mT13 (j := 118) rfl) rfl
theorem k431 : Cond.methodLink RX12 164 yX12_needName ∈ wB := wB_t (mT13 (j := 127) rfl) rfl
theorem k432 : Cond.instanceMethod yX12_needName ∈ wB := wB_t (mT13 (j := 129) rfl) rfl
theorem k433 : Cond.selects RX12 yX12_needName yX12_needName ∈ wB := wB_p (n := 168) (List.mem_of_getElem? (i := 13) rfl)
theorem k434 : Cond.code yX12_needName cX12_needName 2 (some .int) ∈ wB := wB_t (mT13 (j := 130) rfl) rfl
theorem k435 : Cond.methodLink RX12 121 yX12_open ∈ wB := wB_t (mT13 (j := 139) rfl) rfl
theorem k436 : Cond.instanceMethod yX12_open ∈ wB := wB_t (mT13 (j := 141) rfl) rfl
theorem k437 : Cond.selects RX12 yX12_open yX12_open ∈ wB := wB_p (n := 168) (List.mem_of_getElem? (i := 14) rfl)
theorem k438 : Cond.code yX12_open cX12_open 1 none ∈ wB := wB_t (mT13 (j := 142) rfl) rfl
theorem k439 : Cond.methodLink RX12 167 yX12_needOpen ∈ wB := wB_t (mT13 (j := 131) rfl) rfl
theorem k440 : Cond.instanceMethod yX12_needOpen ∈ wB := wB_t (mT13 (j := 133) rfl) rfl
theorem k441 : Cond.selects RX12 yX12_needOpen yX12_needOpen ∈ wB := wB_p (n := 168) (List.mem_of_getElem? (i := 15) rfl)
theorem k442 : Cond.code yX12_needOpen cX12_needOpen 2 none ∈ wB := wB_t (mT13 (j := 134) rfl) rfl
theorem k443 : Cond.methodLink RX12 146 yX12_classHead ∈ wB := wB_t (mT13 (j := 107) rfl) rfl
theorem k444 : Cond.instanceMethod yX12_classHead ∈ wB := wB_t (mT13 (j := 109) rfl) rfl
theorem k445 : Cond.selects RX12 yX12_classHead yX12_classHead ∈ wB := wB_p (n := 168) (List.mem_of_getElem? (i := 16) rfl)
theorem k446 : Cond.code yX12_classHead cX12_classHead 1 none ∈ wB := wB_t (mT13 (j := 110) rfl) rfl
theorem k447 : Cond.methodLink RX12 124 yX12_close ∈ wB := wB_t (mT13 (j := 159) rfl) rfl
theorem k448 : Cond.instanceMethod yX12_close ∈ wB := wB_t (mT13 (j := 161) rfl) rfl
theorem k449 : Cond.selects RX12 yX12_close yX12_close ∈ wB := wB_p (n := 168) (List.mem_of_getElem? (i := 17) rfl)
theorem k450 : Cond.code yX12_close cX12_close 1 none ∈ wB := wB_t (mT13 (j := 162) rfl) rfl
theorem k451 : Cond.methodLink RX12 127 yX12_need ∈ wB := wB_t (mT13 (j := 163) rfl) rfl
theorem k452 : Cond.instanceMethod yX12_need ∈ wB := wB_t (mT13 (j := 165) rfl) rfl
theorem k453 : Cond.selects RX12 yX12_need yX12_need ∈ wB := wB_p (n := 168) (List.mem_of_getElem? (i := 18) rfl)
theorem k454 : Cond.code yX12_need cX12_need 2 none ∈ wB := wB_t (mT13 (j := 166) rfl) rfl
theorem k455 : Cond.methodLink RX12 152 yX12_needClose ∈ wB := wB_t (mT13 (j := 155) rfl) rfl
theorem k456 : Cond.instanceMethod yX12_needClose ∈ wB := wB_t (mT13 (j := 157) rfl) rfl
theorem k457 : Cond.selects RX12 yX12_needClose yX12_needClose ∈ wB := wB_p (n := 168) (List.mem_of_getElem? (i := 19) rfl)
theorem k458 : Cond.code yX12_needClose cX12_needClose 2 none ∈ wB := wB_t (mT13 (j := 158) rfl) rfl
theorem k459 : Cond.methodLink RX12 509 yX12_program ∈ wB := wB_t (mT13 (j := 103) rfl) rfl
theorem k460 : Cond.instanceMethod yX12_program ∈ wB := wB_t (mT13 (j := 105) rfl) rfl
theorem k461 : Cond.selects RX12 yX12_program yX12_program ∈ wB := wB_p (n := 168) (List.mem_of_getElem? (i := 20) rfl)
theorem k462 : Cond.code yX12_program cX12_program 2 none ∈ wB := wB_t (mT13 (j := 106) rfl) rfl
theorem k463 : Cond.methodLink RX12 1177 yX12_compile ∈ wB := wB_t (mT13 (j := 54) rfl) rfl
theorem k464 : Cond.instanceMethod yX12_compile ∈ wB := wB_t (mT13 (j := 56) rfl) rfl
theorem k465 : Cond.selects RX12 yX12_compile yX12_compile ∈ wB := wB_p (n := 168) (List.mem_of_getElem? (i := 21) rfl)
theorem k466 : Cond.code yX12_compile cX12_compile 3 (some .boolean) ∈ wB := wB_t (mT13 (j := 57) rfl) rfl
theorem k467 : Cond.methodLink RX12 1180 yX12_faultKind ∈ wB := wB_t (mT14 (j := 205) rfl) rfl
theorem k468 : Cond.instanceMethod yX12_faultKind ∈ wB := wB_t (mT14 (j := 207) rfl) rfl
theorem k469 : Cond.selects RX12 yX12_faultKind yX12_faultKind ∈ wB := wB_p (n := 168) (List.mem_of_getElem? (i := 22) rfl)
theorem k470 : Cond.code yX12_faultKind cX12_faultKind 2 (some .int) ∈ wB := wB_t (mT14 (j := 208) rfl) rfl
theorem k471 : Cond.fieldLink RX12 1183 "FrostHouseModel" "wrongKind" "I" ∈ wB := wB_t (mT11 (j := 178) rfl) rfl
theorem k472 : Cond.fieldLink RX12 1186 "FrostHouseModel" "wrongAt" "I" ∈ wB := wB_t (mT11 (j := 179) rfl) rfl
theorem k473 : Cond.methodLink RX12 1189 yX12_again ∈ wB := wB_t (mT14 (j := 209) rfl) rfl
theorem k474 : Cond.instanceMethod yX12_again ∈ wB := wB_t (mT14 (j := 211) rfl) rfl
theorem k475 : Cond.selects RX12 yX12_again yX12_again ∈ wB := wB_p (n := 168) (List.mem_of_getElem? (i := 23) rfl)
theorem k476 : Cond.code yX12_again cX12_again 1 none ∈ wB := wB_t (mT14 (j := 212) rfl) rfl
theorem k477 : Cond.methodLink RX12 1192 yX12_programIs ∈ wB := wB_t (mT13 (j := 49) rfl) rfl
theorem k478 : Cond.instanceMethod yX12_programIs ∈ wB := wB_t (mT13 (j := 51) rfl) rfl
theorem k479 : Cond.selects RX12 yX12_programIs yX12_programIs ∈ wB := wB_p (n := 168) (List.mem_of_getElem? (i := 24) rfl)
theorem k480 : Cond.code yX12_programIs cX12_programIs 4 (some .boolean) ∈ wB := wB_t (mT13 (j := 52) rfl) rfl
theorem k481 : Cond.methodLink RX12 282 Lib.Math.max.name ∈ wB := wB_t (mT13 (j := 219) rfl) rfl
theorem k482 : Cond.static Lib.Math.max.name ∈ wB := wB_t (mT5 (j := 168) rfl) rfl
theorem k483 : Cond.code Lib.Math.max.name Lib.Math.max.code 2 (some .int) ∈ wB := wB_t (mT5 (j := 169) rfl) rfl
theorem k484 : Cond.fieldLink RX12 566 "FrostHouseModel" "state" "I" ∈ wB := wB_t (mT11 (j := 84) rfl) rfl
theorem k485 : Cond.fieldLink RX12 978 "FrostHouseModel" "imageSize" "I" ∈ wB := wB_t (mT11 (j := 147) rfl) rfl
theorem k486 : Cond.constantLong RX12 774 (-1) ∈ wB := wB_t (mT15 (j := 38) rfl) rfl
theorem k487 : Cond.constantLong RX12 1209 (4000000000000000000) ∈ wB := wB_t (mT16 (j := 79) rfl) rfl
theorem k488 : Cond.methodLink RX12 1010 yX12_no ∈ wB := wB_t (mT16 (j := 88) rfl) rfl
theorem k489 : Cond.instanceMethod yX12_no ∈ wB := wB_t (mT16 (j := 90) rfl) rfl
theorem k490 : Cond.selects RX12 yX12_no yX12_no ∈ wB := wB_p (n := 168) (List.mem_of_getElem? (i := 25) rfl)
theorem k491 : Cond.code yX12_no cX12_no 3 (some .boolean) ∈ wB := wB_t (mT16 (j := 91) rfl) rfl
theorem k492 : Cond.methodLink RX12 1211 yX12_isFramed ∈ wB := wB_t (mT16 (j := 80) rfl) rfl
theorem k493 : Cond.instanceMethod yX12_isFramed ∈ wB := wB_t (mT16 (j := 82) rfl) rfl
theorem k494 : Cond.selects RX12 yX12_isFramed yX12_isFramed ∈ wB := wB_p (n := 168) (List.mem_of_getElem? (i := 26) rfl)
theorem k495 : Cond.code yX12_isFramed cX12_isFramed 6 (some .boolean) ∈ wB := wB_t (mT16 (j := 83) rfl) rfl
theorem k496 : Cond.methodLink RL 13 yX11_feed ∈ wB := wB_t (mT4 (j := 239) rfl) rfl
theorem k497 : Cond.instanceMethod yX11_feed ∈ wB := wB_t (mT5 (j := 0) rfl) rfl
theorem k498 : Cond.selects RX11 yX11_feed yX11_feed ∈ wB := wB_t (mT5 (j := 1) rfl) rfl
theorem k499 : Cond.code yX11_feed cX11_feed 6 (some .int) ∈ wB := wB_t (mT5 (j := 2) rfl) rfl
theorem k500 : Cond.methodLink RL 17 yX12_feed ∈ wB := wB_t (mT13 (j := 37) rfl) rfl
theorem k501 : Cond.instanceMethod yX12_feed ∈ wB := wB_t (mT13 (j := 38) rfl) rfl
theorem k502 : Cond.selects RX12 yX12_feed yX12_feed ∈ wB := wB_t (mT13 (j := 39) rfl) rfl
theorem k503 : Cond.code yX12_feed cX12_feed 8 (some .int) ∈ wB := wB_t (mT13 (j := 40) rfl) rfl
theorem k504 : Cond.methodLink RL 18 yX11_end ∈ wB := wB_t (mT5 (j := 7) rfl) rfl
theorem k505 : Cond.instanceMethod yX11_end ∈ wB := wB_t (mT5 (j := 8) rfl) rfl
theorem k506 : Cond.selects RX11 yX11_end yX11_end ∈ wB := wB_t (mT5 (j := 9) rfl) rfl
theorem k507 : Cond.code yX11_end cX11_end 2 (some .boolean) ∈ wB := wB_t (mT5 (j := 10) rfl) rfl
theorem k508 : Cond.methodLink RL 22 yX12_end ∈ wB := wB_t (mT13 (j := 41) rfl) rfl
theorem k509 : Cond.instanceMethod yX12_end ∈ wB := wB_t (mT13 (j := 42) rfl) rfl
theorem k510 : Cond.selects RX12 yX12_end yX12_end ∈ wB := wB_t (mT13 (j := 43) rfl) rfl
theorem k511 : Cond.code yX12_end cX12_end 2 (some .boolean) ∈ wB := wB_t (mT13 (j := 44) rfl) rfl
theorem k512 : Cond.methodLink RL 23 yX11_load ∈ wB := wB_t (mT5 (j := 11) rfl) rfl
theorem k513 : Cond.instanceMethod yX11_load ∈ wB := wB_t (mT5 (j := 12) rfl) rfl
theorem k514 : Cond.selects RX11 yX11_load yX11_load ∈ wB := wB_t (mT5 (j := 13) rfl) rfl
theorem k515 : Cond.code yX11_load cX11_load 3 (some .int) ∈ wB := wB_t (mT5 (j := 14) rfl) rfl
theorem k516 : Cond.methodLink RL 27 yX12_load ∈ wB := wB_t (mT13 (j := 45) rfl) rfl
theorem k517 : Cond.instanceMethod yX12_load ∈ wB := wB_t (mT13 (j := 46) rfl) rfl
theorem k518 : Cond.selects RX12 yX12_load yX12_load ∈ wB := wB_t (mT13 (j := 47) rfl) rfl
theorem k519 : Cond.code yX12_load cX12_load 3 (some .int) ∈ wB := wB_t (mT13 (j := 48) rfl) rfl
theorem k520 : Cond.methodLink RL 28 yX11_fault ∈ wB := wB_t (mT7 (j := 150) rfl) rfl
theorem k521 : Cond.instanceMethod yX11_fault ∈ wB := wB_t (mT7 (j := 151) rfl) rfl
theorem k522 : Cond.selects RX11 yX11_fault yX11_fault ∈ wB := wB_t (mT7 (j := 152) rfl) rfl
theorem k523 : Cond.code yX11_fault cX11_fault 2 (some .int) ∈ wB := wB_t (mT7 (j := 153) rfl) rfl
theorem k524 : Cond.methodLink RL 31 yX12_fault ∈ wB := wB_t (mT14 (j := 238) rfl) rfl
theorem k525 : Cond.instanceMethod yX12_fault ∈ wB := wB_t (mT14 (j := 239) rfl) rfl
theorem k526 : Cond.selects RX12 yX12_fault yX12_fault ∈ wB := wB_t (mT15 (j := 0) rfl) rfl
theorem k527 : Cond.code yX12_fault cX12_fault 2 (some .int) ∈ wB := wB_t (mT15 (j := 1) rfl) rfl
theorem k528 : Cond.methodLink RL 32 yX11_run ∈ wB := wB_t (mT7 (j := 154) rfl) rfl
theorem k529 : Cond.instanceMethod yX11_run ∈ wB := wB_t (mT7 (j := 155) rfl) rfl
theorem k530 : Cond.selects RX11 yX11_run yX11_run ∈ wB := wB_t (mT7 (j := 156) rfl) rfl
theorem k531 : Cond.code yX11_run cX11_run 3 (some .int) ∈ wB := wB_t (mT7 (j := 157) rfl) rfl
theorem k532 : Cond.methodLink RL 35 yX12_run ∈ wB := wB_t (mT15 (j := 2) rfl) rfl
theorem k533 : Cond.instanceMethod yX12_run ∈ wB := wB_t (mT15 (j := 3) rfl) rfl
theorem k534 : Cond.selects RX12 yX12_run yX12_run ∈ wB := wB_t (mT15 (j := 4) rfl) rfl
theorem k535 : Cond.code yX12_run cX12_run 3 (some .int) ∈ wB := wB_t (mT15 (j := 5) rfl) rfl
theorem k536 : Cond.methodLink RL 36 yX11_about ∈ wB := wB_t (mT9 (j := 127) rfl) rfl
theorem k537 : Cond.instanceMethod yX11_about ∈ wB := wB_t (mT9 (j := 128) rfl) rfl
theorem k538 : Cond.selects RX11 yX11_about yX11_about ∈ wB := wB_t (mT9 (j := 129) rfl) rfl
theorem k539 : Cond.code yX11_about cX11_about 3 (some .int) ∈ wB := wB_t (mT9 (j := 130) rfl) rfl
theorem k540 : Cond.methodLink RL 39 yX12_about ∈ wB := wB_t (mT16 (j := 42) rfl) rfl
theorem k541 : Cond.instanceMethod yX12_about ∈ wB := wB_t (mT16 (j := 43) rfl) rfl
theorem k542 : Cond.selects RX12 yX12_about yX12_about ∈ wB := wB_t (mT16 (j := 44) rfl) rfl
theorem k543 : Cond.code yX12_about cX12_about 4 (some .int) ∈ wB := wB_t (mT16 (j := 45) rfl) rfl
theorem k544 : Cond.methodLink RL 40 yX11_clock ∈ wB := wB_t (mT9 (j := 147) rfl) rfl
theorem k545 : Cond.instanceMethod yX11_clock ∈ wB := wB_t (mT9 (j := 148) rfl) rfl
theorem k546 : Cond.selects RX11 yX11_clock yX11_clock ∈ wB := wB_t (mT9 (j := 149) rfl) rfl
theorem k547 : Cond.code yX11_clock cX11_clock 1 (some .long) ∈ wB := wB_t (mT9 (j := 150) rfl) rfl
theorem k548 : Cond.methodLink RL 44 yX12_clock ∈ wB := wB_t (mT16 (j := 47) rfl) rfl
theorem k549 : Cond.instanceMethod yX12_clock ∈ wB := wB_t (mT16 (j := 48) rfl) rfl
theorem k550 : Cond.selects RX12 yX12_clock yX12_clock ∈ wB := wB_t (mT16 (j := 49) rfl) rfl
theorem k551 : Cond.code yX12_clock cX12_clock 1 (some .long) ∈ wB := wB_t (mT16 (j := 50) rfl) rfl
theorem k552 : Cond.methodLink RL 45 yX11_out ∈ wB := wB_t (mT9 (j := 152) rfl) rfl
theorem k553 : Cond.instanceMethod yX11_out ∈ wB := wB_t (mT9 (j := 153) rfl) rfl
theorem k554 : Cond.selects RX11 yX11_out yX11_out ∈ wB := wB_t (mT9 (j := 154) rfl) rfl
theorem k555 : Cond.code yX11_out cX11_out 2 (some .int) ∈ wB := wB_t (mT9 (j := 155) rfl) rfl
theorem k556 : Cond.methodLink RL 48 yX12_out ∈ wB := wB_t (mT16 (j := 51) rfl) rfl
theorem k557 : Cond.instanceMethod yX12_out ∈ wB := wB_t (mT16 (j := 52) rfl) rfl
theorem k558 : Cond.selects RX12 yX12_out yX12_out ∈ wB := wB_t (mT16 (j := 53) rfl) rfl
theorem k559 : Cond.code yX12_out cX12_out 2 (some .int) ∈ wB := wB_t (mT16 (j := 54) rfl) rfl
theorem k560 : Cond.methodLink RL 49 yX11_freeze ∈ wB := wB_t (mT9 (j := 156) rfl) rfl
theorem k561 : Cond.instanceMethod yX11_freeze ∈ wB := wB_t (mT9 (j := 157) rfl) rfl
theorem k562 : Cond.selects RX11 yX11_freeze yX11_freeze ∈ wB := wB_t (mT9 (j := 158) rfl) rfl
theorem k563 : Cond.code yX11_freeze cX11_freeze 1 (some .int) ∈ wB := wB_t (mT9 (j := 159) rfl) rfl
theorem k564 : Cond.methodLink RL 53 yX12_freeze ∈ wB := wB_t (mT16 (j := 55) rfl) rfl
theorem k565 : Cond.instanceMethod yX12_freeze ∈ wB := wB_t (mT16 (j := 56) rfl) rfl
theorem k566 : Cond.selects RX12 yX12_freeze yX12_freeze ∈ wB := wB_t (mT16 (j := 57) rfl) rfl
theorem k567 : Cond.code yX12_freeze cX12_freeze 1 (some .int) ∈ wB := wB_t (mT16 (j := 58) rfl) rfl
theorem k568 : Cond.methodLink RL 54 yX11_image ∈ wB := wB_t (mT9 (j := 160) rfl) rfl
theorem k569 : Cond.instanceMethod yX11_image ∈ wB := wB_t (mT9 (j := 161) rfl) rfl
theorem k570 : Cond.selects RX11 yX11_image yX11_image ∈ wB := wB_t (mT9 (j := 162) rfl) rfl
theorem k571 : Cond.code yX11_image cX11_image 2 (some .int) ∈ wB := wB_t (mT9 (j := 163) rfl) rfl
theorem k572 : Cond.methodLink RL 57 yX12_image_ ∈ wB := wB_t (mT16 (j := 59) rfl) rfl
theorem k573 : Cond.instanceMethod yX12_image_ ∈ wB := wB_t (mT16 (j := 60) rfl) rfl
theorem k574 : Cond.selects RX12 yX12_image_ yX12_image_ ∈ wB := wB_t (mT16 (j := 61) rfl) rfl
theorem k575 : Cond.code yX12_image_ cX12_image_ 2 (some .int) ∈ wB := wB_t (mT16 (j := 62) rfl) rfl
theorem k576 : Cond.methodLink RL 58 yX11_take ∈ wB := wB_t (mT9 (j := 164) rfl) rfl
theorem k577 : Cond.instanceMethod yX11_take ∈ wB := wB_t (mT9 (j := 165) rfl) rfl
theorem k578 : Cond.selects RX11 yX11_take yX11_take ∈ wB := wB_t (mT9 (j := 166) rfl) rfl
theorem k579 : Cond.code yX11_take cX11_take 1 (some .int) ∈ wB := wB_t (mT9 (j := 167) rfl) rfl
theorem k580 : Cond.methodLink RL 61 yX12_take ∈ wB := wB_t (mT16 (j := 63) rfl) rfl
theorem k581 : Cond.instanceMethod yX12_take ∈ wB := wB_t (mT16 (j := 64) rfl) rfl
theorem k582 : Cond.selects RX12 yX12_take yX12_take ∈ wB := wB_t (mT16 (j := 65) rfl) rfl
theorem k583 : Cond.code yX12_take cX12_take 1 (some .int) ∈ wB := wB_t (mT16 (j := 66) rfl) rfl
theorem k584 : Cond.methodLink RL 62 yX11_patch ∈ wB := wB_t (mT9 (j := 169) rfl) rfl
theorem k585 : Cond.instanceMethod yX11_patch ∈ wB := wB_t (mT9 (j := 170) rfl) rfl
theorem k586 : Cond.selects RX11 yX11_patch yX11_patch ∈ wB := wB_t (mT9 (j := 171) rfl) rfl
theorem k587 : Cond.code yX11_patch cX11_patch 3 (some .boolean) ∈ wB := wB_t (mT9 (j := 172) rfl) rfl
theorem k588 : Cond.methodLink RL 66 yX12_patch ∈ wB := wB_t (mT16 (j := 67) rfl) rfl
theorem k589 : Cond.instanceMethod yX12_patch ∈ wB := wB_t (mT16 (j := 68) rfl) rfl
theorem k590 : Cond.selects RX12 yX12_patch yX12_patch ∈ wB := wB_t (mT16 (j := 69) rfl) rfl
theorem k591 : Cond.code yX12_patch cX12_patch 3 (some .boolean) ∈ wB := wB_t (mT16 (j := 70) rfl) rfl
theorem k592 : Cond.methodLink RL 67 yX11_seal ∈ wB := wB_t (mT9 (j := 173) rfl) rfl
theorem k593 : Cond.instanceMethod yX11_seal ∈ wB := wB_t (mT9 (j := 174) rfl) rfl
theorem k594 : Cond.selects RX11 yX11_seal yX11_seal ∈ wB := wB_t (mT9 (j := 175) rfl) rfl
theorem k595 : Cond.code yX11_seal cX11_seal 1 (some .boolean) ∈ wB := wB_t (mT9 (j := 176) rfl) rfl
theorem k596 : Cond.methodLink RL 71 yX12_seal ∈ wB := wB_t (mT16 (j := 71) rfl) rfl
theorem k597 : Cond.instanceMethod yX12_seal ∈ wB := wB_t (mT16 (j := 72) rfl) rfl
theorem k598 : Cond.selects RX12 yX12_seal yX12_seal ∈ wB := wB_t (mT16 (j := 73) rfl) rfl
theorem k599 : Cond.code yX12_seal cX12_seal 3 (some .boolean) ∈ wB := wB_t (mT16 (j := 74) rfl) rfl
theorem k600 : Cond.constantLong RL 72 (4294967295) ∈ wB := wB_t (mT17 (j := 21) rfl) rfl
theorem k601 : Cond.methodLink RL 74 yX11_restore ∈ wB := wB_t (mT9 (j := 178) rfl) rfl
theorem k602 : Cond.instanceMethod yX11_restore ∈ wB := wB_t (mT9 (j := 179) rfl) rfl
theorem k603 : Cond.selects RX11 yX11_restore yX11_restore ∈ wB := wB_t (mT9 (j := 180) rfl) rfl
theorem k604 : Cond.code yX11_restore cX11_restore 6 (some .int) ∈ wB := wB_t (mT9 (j := 181) rfl) rfl
theorem k605 : Cond.methodLink RL 78 yX12_restore ∈ wB := wB_t (mT16 (j := 75) rfl) rfl
theorem k606 : Cond.instanceMethod yX12_restore ∈ wB := wB_t (mT16 (j := 76) rfl) rfl
theorem k607 : Cond.selects RX12 yX12_restore yX12_restore ∈ wB := wB_t (mT16 (j := 77) rfl) rfl
theorem k608 : Cond.code yX12_restore cX12_restore 4 (some .int) ∈ wB := wB_t (mT16 (j := 78) rfl) rfl
theorem k609 : Cond.methodLink RL 79 yX11_thaw ∈ wB := wB_t (mT10 (j := 205) rfl) rfl
theorem k610 : Cond.instanceMethod yX11_thaw ∈ wB := wB_t (mT10 (j := 206) rfl) rfl
theorem k611 : Cond.selects RX11 yX11_thaw yX11_thaw ∈ wB := wB_t (mT10 (j := 207) rfl) rfl
theorem k612 : Cond.code yX11_thaw cX11_thaw 1 (some .boolean) ∈ wB := wB_t (mT10 (j := 208) rfl) rfl
theorem k613 : Cond.methodLink RL 82 yX12_thaw ∈ wB := wB_t (mT17 (j := 5) rfl) rfl
theorem k614 : Cond.instanceMethod yX12_thaw ∈ wB := wB_t (mT17 (j := 6) rfl) rfl
theorem k615 : Cond.selects RX12 yX12_thaw yX12_thaw ∈ wB := wB_t (mT17 (j := 7) rfl) rfl
theorem k616 : Cond.code yX12_thaw cX12_thaw 1 (some .boolean) ∈ wB := wB_t (mT17 (j := 8) rfl) rfl
theorem k617 : Cond.methodLink RL 83 yX11_thread ∈ wB := wB_t (mT10 (j := 209) rfl) rfl
theorem k618 : Cond.instanceMethod yX11_thread ∈ wB := wB_t (mT10 (j := 210) rfl) rfl
theorem k619 : Cond.selects RX11 yX11_thread yX11_thread ∈ wB := wB_t (mT10 (j := 211) rfl) rfl
theorem k620 : Cond.code yX11_thread cX11_thread 3 (some .int) ∈ wB := wB_t (mT10 (j := 212) rfl) rfl
theorem k621 : Cond.methodLink RL 87 yX12_thread_ ∈ wB := wB_t (mT17 (j := 9) rfl) rfl
theorem k622 : Cond.instanceMethod yX12_thread_ ∈ wB := wB_t (mT17 (j := 10) rfl) rfl
theorem k623 : Cond.selects RX12 yX12_thread_ yX12_thread_ ∈ wB := wB_t (mT17 (j := 11) rfl) rfl
theorem k624 : Cond.code yX12_thread_ cX12_thread_ 4 (some .int) ∈ wB := wB_t (mT17 (j := 12) rfl) rfl
theorem k625 : Cond.methodLink RL 88 yX11_method ∈ wB := wB_t (mT10 (j := 218) rfl) rfl
theorem k626 : Cond.instanceMethod yX11_method ∈ wB := wB_t (mT10 (j := 219) rfl) rfl
theorem k627 : Cond.selects RX11 yX11_method yX11_method ∈ wB := wB_t (mT10 (j := 220) rfl) rfl
theorem k628 : Cond.code yX11_method cX11_method 3 (some .int) ∈ wB := wB_t (mT10 (j := 221) rfl) rfl
theorem k629 : Cond.methodLink RL 91 yX12_method_ ∈ wB := wB_t (mT17 (j := 13) rfl) rfl
theorem k630 : Cond.instanceMethod yX12_method_ ∈ wB := wB_t (mT17 (j := 14) rfl) rfl
theorem k631 : Cond.selects RX12 yX12_method_ yX12_method_ ∈ wB := wB_t (mT17 (j := 15) rfl) rfl
theorem k632 : Cond.code yX12_method_ cX12_method_ 3 (some .int) ∈ wB := wB_t (mT17 (j := 16) rfl) rfl
theorem k633 : Cond.methodLink RL 92 yX11_klass ∈ wB := wB_t (mT10 (j := 227) rfl) rfl
theorem k634 : Cond.instanceMethod yX11_klass ∈ wB := wB_t (mT10 (j := 228) rfl) rfl
theorem k635 : Cond.selects RX11 yX11_klass yX11_klass ∈ wB := wB_t (mT10 (j := 229) rfl) rfl
theorem k636 : Cond.code yX11_klass cX11_klass 3 (some .int) ∈ wB := wB_t (mT10 (j := 230) rfl) rfl
theorem k637 : Cond.methodLink RL 95 yX12_klass ∈ wB := wB_t (mT17 (j := 17) rfl) rfl
theorem k638 : Cond.instanceMethod yX12_klass ∈ wB := wB_t (mT17 (j := 18) rfl) rfl
theorem k639 : Cond.selects RX12 yX12_klass yX12_klass ∈ wB := wB_t (mT17 (j := 19) rfl) rfl
theorem k640 : Cond.code yX12_klass cX12_klass 5 (some .int) ∈ wB := wB_t (mT17 (j := 20) rfl) rfl
theorem k641 : Cond.classLink RL 7 RX11 ∈ wB := wB_t (mT1 (j := 23) rfl) rfl
theorem k642 : Cond.instantiable RX11 15 ∈ wB := wB_t (mT1 (j := 24) rfl) rfl
theorem k643 : Cond.methodLink RL 9 yX11_init ∈ wB := wB_t (mT1 (j := 25) rfl) rfl
theorem k644 : Cond.instanceMethod yX11_init ∈ wB := wB_t (mT1 (j := 26) rfl) rfl
theorem k645 : Cond.code yX11_init cX11_init 1 none ∈ wB := wB_t (mT1 (j := 27) rfl) rfl
theorem k646 : Cond.classLink RL 10 RX12 ∈ wB := wB_t (mT11 (j := 0) rfl) rfl
theorem k647 : Cond.instantiable RX12 168 ∈ wB := wB_t (mT11 (j := 1) rfl) rfl
theorem k648 : Cond.methodLink RL 12 yX12_init ∈ wB := wB_t (mT11 (j := 2) rfl) rfl
theorem k649 : Cond.instanceMethod yX12_init ∈ wB := wB_t (mT11 (j := 3) rfl) rfl
theorem k650 : Cond.code yX12_init cX12_init 2 none ∈ wB := wB_t (mT11 (j := 4) rfl) rfl
theorem dJ7_fill_53178_0 : decode cJ7_fill_53178 0 = .ok (.iconst 0, 1) := by decide +kernel
theorem dJ7_fill_53178_1 : decode cJ7_fill_53178 1 = .ok (.istore_n 2, 1) := by decide +kernel
theorem dJ7_fill_53178_2 : decode cJ7_fill_53178 2 = .ok (.aload_n 0, 1) := by decide +kernel
theorem dJ7_fill_53178_3 : decode cJ7_fill_53178 3 = .ok (.arraylength, 1) := by decide +kernel
theorem dJ7_fill_53178_4 : decode cJ7_fill_53178 4 = .ok (.istore_n 3, 1) := by decide +kernel
theorem dJ7_fill_53178_5 : decode cJ7_fill_53178 5 = .ok (.iload_n 2, 1) := by decide +kernel
theorem dJ7_fill_53178_6 : decode cJ7_fill_53178 6 = .ok (.iload_n 3, 1) := by decide +kernel
theorem dJ7_fill_53178_7 : decode cJ7_fill_53178 7 = .ok (.if_icmp .ge 13, 3) := by decide +kernel
theorem dJ7_fill_53178_10 : decode cJ7_fill_53178 10 = .ok (.aload_n 0, 1) := by decide +kernel
theorem dJ7_fill_53178_11 : decode cJ7_fill_53178 11 = .ok (.iload_n 2, 1) := by decide +kernel
theorem dJ7_fill_53178_12 : decode cJ7_fill_53178 12 = .ok (.iload_n 1, 1) := by decide +kernel
theorem dJ7_fill_53178_13 : decode cJ7_fill_53178 13 = .ok (.iastore, 1) := by decide +kernel
theorem dJ7_fill_53178_14 : decode cJ7_fill_53178 14 = .ok (.iinc 2 1, 3) := by decide +kernel
theorem dJ7_fill_53178_17 : decode cJ7_fill_53178 17 = .ok (.goto (-12), 3) := by decide +kernel
theorem dJ7_fill_53178_20 : decode cJ7_fill_53178 20 = .ok (.return_, 1) := by decide +kernel
theorem dL_law_0 : decode cL_law 0 = .ok (.new 7, 3) := by decide +kernel
theorem dL_law_3 : decode cL_law 3 = .ok (.dup, 1) := by decide +kernel
theorem dL_law_4 : decode cL_law 4 = .ok (.invokespecial 9, 3) := by decide +kernel
theorem dL_law_7 : decode cL_law 7 = .ok (.astore_n 1, 1) := by decide +kernel
theorem dL_law_8 : decode cL_law 8 = .ok (.new 10, 3) := by decide +kernel
theorem dL_law_11 : decode cL_law 11 = .ok (.dup, 1) := by decide +kernel
theorem dL_law_12 : decode cL_law 12 = .ok (.invokespecial 12, 3) := by decide +kernel
theorem dL_law_15 : decode cL_law 15 = .ok (.astore_n 2, 1) := by decide +kernel
theorem dL_law_16 : decode cL_law 16 = .ok (.iconst 0, 1) := by decide +kernel
theorem dL_law_17 : decode cL_law 17 = .ok (.istore_n 3, 1) := by decide +kernel
theorem dL_law_18 : decode cL_law 18 = .ok (.iload_n 3, 1) := by decide +kernel
theorem dL_law_19 : decode cL_law 19 = .ok (.aload_n 0, 1) := by decide +kernel
theorem dL_law_20 : decode cL_law 20 = .ok (.arraylength, 1) := by decide +kernel
theorem dL_law_21 : decode cL_law 21 = .ok (.bipush 6, 2) := by decide +kernel
theorem dL_law_23 : decode cL_law 23 = .ok (.isub, 1) := by decide +kernel
theorem dL_law_24 : decode cL_law 24 = .ok (.if_icmp .gt 587, 3) := by decide +kernel
theorem dL_law_27 : decode cL_law 27 = .ok (.aload_n 0, 1) := by decide +kernel
theorem dL_law_28 : decode cL_law 28 = .ok (.iload_n 3, 1) := by decide +kernel
theorem dL_law_29 : decode cL_law 29 = .ok (.iaload, 1) := by decide +kernel
theorem dL_law_30 : decode cL_law 30 = .ok (.bipush 31, 2) := by decide +kernel
theorem dL_law_32 : decode cL_law 32 = .ok (.iand, 1) := by decide +kernel
theorem dL_law_33 : decode cL_law 33 = .ok (.tableswitch 572 0 17 #[87, 150, 173, 196, 219, 242, 265, 279, 302, 315, 338, 351, 384, 397, 460, 473, 506, 539], 87) := by decide +kernel
theorem dL_law_120 : decode cL_law 120 = .ok (.aload_n 1, 1) := by decide +kernel
theorem dL_law_121 : decode cL_law 121 = .ok (.aload_n 0, 1) := by decide +kernel
theorem dL_law_122 : decode cL_law 122 = .ok (.iload_n 3, 1) := by decide +kernel
theorem dL_law_123 : decode cL_law 123 = .ok (.iconst 1, 1) := by decide +kernel
theorem dL_law_124 : decode cL_law 124 = .ok (.iadd, 1) := by decide +kernel
theorem dL_law_125 : decode cL_law 125 = .ok (.iaload, 1) := by decide +kernel
theorem dL_law_126 : decode cL_law 126 = .ok (.aload_n 0, 1) := by decide +kernel
theorem dL_law_127 : decode cL_law 127 = .ok (.iload_n 3, 1) := by decide +kernel
theorem dL_law_128 : decode cL_law 128 = .ok (.iconst 2, 1) := by decide +kernel
theorem dL_law_129 : decode cL_law 129 = .ok (.iadd, 1) := by decide +kernel
theorem dL_law_130 : decode cL_law 130 = .ok (.iaload, 1) := by decide +kernel
theorem dL_law_131 : decode cL_law 131 = .ok (.aload_n 0, 1) := by decide +kernel
theorem dL_law_132 : decode cL_law 132 = .ok (.iload_n 3, 1) := by decide +kernel
theorem dL_law_133 : decode cL_law 133 = .ok (.iconst 3, 1) := by decide +kernel
theorem dL_law_134 : decode cL_law 134 = .ok (.iadd, 1) := by decide +kernel
theorem dL_law_135 : decode cL_law 135 = .ok (.iaload, 1) := by decide +kernel
theorem dL_law_136 : decode cL_law 136 = .ok (.aload_n 0, 1) := by decide +kernel
theorem dL_law_137 : decode cL_law 137 = .ok (.iload_n 3, 1) := by decide +kernel
theorem dL_law_138 : decode cL_law 138 = .ok (.iconst 4, 1) := by decide +kernel
theorem dL_law_139 : decode cL_law 139 = .ok (.iadd, 1) := by decide +kernel
theorem dL_law_140 : decode cL_law 140 = .ok (.iaload, 1) := by decide +kernel
theorem dL_law_141 : decode cL_law 141 = .ok (.aload_n 0, 1) := by decide +kernel
theorem dL_law_142 : decode cL_law 142 = .ok (.iload_n 3, 1) := by decide +kernel
theorem dL_law_143 : decode cL_law 143 = .ok (.iconst 5, 1) := by decide +kernel
theorem dL_law_144 : decode cL_law 144 = .ok (.iadd, 1) := by decide +kernel
theorem dL_law_145 : decode cL_law 145 = .ok (.iaload, 1) := by decide +kernel
theorem dL_law_146 : decode cL_law 146 = .ok (.invokevirtual 13, 3) := by decide +kernel
theorem dL_law_149 : decode cL_law 149 = .ok (.aload_n 2, 1) := by decide +kernel
theorem dL_law_150 : decode cL_law 150 = .ok (.aload_n 0, 1) := by decide +kernel
theorem dL_law_151 : decode cL_law 151 = .ok (.iload_n 3, 1) := by decide +kernel
theorem dL_law_152 : decode cL_law 152 = .ok (.iconst 1, 1) := by decide +kernel
theorem dL_law_153 : decode cL_law 153 = .ok (.iadd, 1) := by decide +kernel
theorem dL_law_154 : decode cL_law 154 = .ok (.iaload, 1) := by decide +kernel
theorem dL_law_155 : decode cL_law 155 = .ok (.aload_n 0, 1) := by decide +kernel
theorem dL_law_156 : decode cL_law 156 = .ok (.iload_n 3, 1) := by decide +kernel
theorem dL_law_157 : decode cL_law 157 = .ok (.iconst 2, 1) := by decide +kernel
theorem dL_law_158 : decode cL_law 158 = .ok (.iadd, 1) := by decide +kernel
theorem dL_law_159 : decode cL_law 159 = .ok (.iaload, 1) := by decide +kernel
theorem dL_law_160 : decode cL_law 160 = .ok (.aload_n 0, 1) := by decide +kernel
theorem dL_law_161 : decode cL_law 161 = .ok (.iload_n 3, 1) := by decide +kernel
theorem dL_law_162 : decode cL_law 162 = .ok (.iconst 3, 1) := by decide +kernel
theorem dL_law_163 : decode cL_law 163 = .ok (.iadd, 1) := by decide +kernel
theorem dL_law_164 : decode cL_law 164 = .ok (.iaload, 1) := by decide +kernel
theorem dL_law_165 : decode cL_law 165 = .ok (.aload_n 0, 1) := by decide +kernel
theorem dL_law_166 : decode cL_law 166 = .ok (.iload_n 3, 1) := by decide +kernel
theorem dL_law_167 : decode cL_law 167 = .ok (.iconst 4, 1) := by decide +kernel
theorem dL_law_168 : decode cL_law 168 = .ok (.iadd, 1) := by decide +kernel
theorem dL_law_169 : decode cL_law 169 = .ok (.iaload, 1) := by decide +kernel
theorem dL_law_170 : decode cL_law 170 = .ok (.aload_n 0, 1) := by decide +kernel
theorem dL_law_171 : decode cL_law 171 = .ok (.iload_n 3, 1) := by decide +kernel
theorem dL_law_172 : decode cL_law 172 = .ok (.iconst 5, 1) := by decide +kernel
theorem dL_law_173 : decode cL_law 173 = .ok (.iadd, 1) := by decide +kernel
theorem dL_law_174 : decode cL_law 174 = .ok (.iaload, 1) := by decide +kernel
theorem dL_law_175 : decode cL_law 175 = .ok (.invokevirtual 17, 3) := by decide +kernel
theorem dL_law_178 : decode cL_law 178 = .ok (.if_icmp .eq 427, 3) := by decide +kernel
theorem dL_law_183 : decode cL_law 183 = .ok (.aload_n 1, 1) := by decide +kernel
theorem dL_law_184 : decode cL_law 184 = .ok (.aload_n 0, 1) := by decide +kernel
theorem dL_law_185 : decode cL_law 185 = .ok (.iload_n 3, 1) := by decide +kernel
theorem dL_law_186 : decode cL_law 186 = .ok (.iconst 1, 1) := by decide +kernel
theorem dL_law_187 : decode cL_law 187 = .ok (.iadd, 1) := by decide +kernel
theorem dL_law_188 : decode cL_law 188 = .ok (.iaload, 1) := by decide +kernel
theorem dL_law_189 : decode cL_law 189 = .ok (.invokevirtual 18, 3) := by decide +kernel
theorem dL_law_192 : decode cL_law 192 = .ok (.aload_n 2, 1) := by decide +kernel
theorem dL_law_193 : decode cL_law 193 = .ok (.aload_n 0, 1) := by decide +kernel
theorem dL_law_194 : decode cL_law 194 = .ok (.iload_n 3, 1) := by decide +kernel
theorem dL_law_195 : decode cL_law 195 = .ok (.iconst 1, 1) := by decide +kernel
theorem dL_law_196 : decode cL_law 196 = .ok (.iadd, 1) := by decide +kernel
theorem dL_law_197 : decode cL_law 197 = .ok (.iaload, 1) := by decide +kernel
theorem dL_law_198 : decode cL_law 198 = .ok (.invokevirtual 22, 3) := by decide +kernel
theorem dL_law_201 : decode cL_law 201 = .ok (.if_icmp .eq 404, 3) := by decide +kernel
theorem dL_law_206 : decode cL_law 206 = .ok (.aload_n 1, 1) := by decide +kernel
theorem dL_law_207 : decode cL_law 207 = .ok (.aload_n 0, 1) := by decide +kernel
theorem dL_law_208 : decode cL_law 208 = .ok (.iload_n 3, 1) := by decide +kernel
theorem dL_law_209 : decode cL_law 209 = .ok (.iconst 1, 1) := by decide +kernel
theorem dL_law_210 : decode cL_law 210 = .ok (.iadd, 1) := by decide +kernel
theorem dL_law_211 : decode cL_law 211 = .ok (.iaload, 1) := by decide +kernel
theorem dL_law_212 : decode cL_law 212 = .ok (.invokevirtual 23, 3) := by decide +kernel
theorem dL_law_215 : decode cL_law 215 = .ok (.aload_n 2, 1) := by decide +kernel
theorem dL_law_216 : decode cL_law 216 = .ok (.aload_n 0, 1) := by decide +kernel
theorem dL_law_217 : decode cL_law 217 = .ok (.iload_n 3, 1) := by decide +kernel
theorem dL_law_218 : decode cL_law 218 = .ok (.iconst 1, 1) := by decide +kernel
theorem dL_law_219 : decode cL_law 219 = .ok (.iadd, 1) := by decide +kernel
theorem dL_law_220 : decode cL_law 220 = .ok (.iaload, 1) := by decide +kernel
theorem dL_law_221 : decode cL_law 221 = .ok (.invokevirtual 27, 3) := by decide +kernel
theorem dL_law_224 : decode cL_law 224 = .ok (.if_icmp .eq 381, 3) := by decide +kernel
theorem dL_law_229 : decode cL_law 229 = .ok (.aload_n 1, 1) := by decide +kernel
theorem dL_law_230 : decode cL_law 230 = .ok (.aload_n 0, 1) := by decide +kernel
theorem dL_law_231 : decode cL_law 231 = .ok (.iload_n 3, 1) := by decide +kernel
theorem dL_law_232 : decode cL_law 232 = .ok (.iconst 1, 1) := by decide +kernel
theorem dL_law_233 : decode cL_law 233 = .ok (.iadd, 1) := by decide +kernel
theorem dL_law_234 : decode cL_law 234 = .ok (.iaload, 1) := by decide +kernel
theorem dL_law_235 : decode cL_law 235 = .ok (.invokevirtual 28, 3) := by decide +kernel
theorem dL_law_238 : decode cL_law 238 = .ok (.aload_n 2, 1) := by decide +kernel
theorem dL_law_239 : decode cL_law 239 = .ok (.aload_n 0, 1) := by decide +kernel
theorem dL_law_240 : decode cL_law 240 = .ok (.iload_n 3, 1) := by decide +kernel
theorem dL_law_241 : decode cL_law 241 = .ok (.iconst 1, 1) := by decide +kernel
theorem dL_law_242 : decode cL_law 242 = .ok (.iadd, 1) := by decide +kernel
theorem dL_law_243 : decode cL_law 243 = .ok (.iaload, 1) := by decide +kernel
theorem dL_law_244 : decode cL_law 244 = .ok (.invokevirtual 31, 3) := by decide +kernel
theorem dL_law_247 : decode cL_law 247 = .ok (.if_icmp .eq 358, 3) := by decide +kernel
theorem dL_law_252 : decode cL_law 252 = .ok (.aload_n 1, 1) := by decide +kernel
theorem dL_law_253 : decode cL_law 253 = .ok (.aload_n 0, 1) := by decide +kernel
theorem dL_law_254 : decode cL_law 254 = .ok (.iload_n 3, 1) := by decide +kernel
theorem dL_law_255 : decode cL_law 255 = .ok (.iconst 1, 1) := by decide +kernel
theorem dL_law_256 : decode cL_law 256 = .ok (.iadd, 1) := by decide +kernel
theorem dL_law_257 : decode cL_law 257 = .ok (.iaload, 1) := by decide +kernel
theorem dL_law_258 : decode cL_law 258 = .ok (.invokevirtual 32, 3) := by decide +kernel
theorem dL_law_261 : decode cL_law 261 = .ok (.aload_n 2, 1) := by decide +kernel
theorem dL_law_262 : decode cL_law 262 = .ok (.aload_n 0, 1) := by decide +kernel
theorem dL_law_263 : decode cL_law 263 = .ok (.iload_n 3, 1) := by decide +kernel
theorem dL_law_264 : decode cL_law 264 = .ok (.iconst 1, 1) := by decide +kernel
theorem dL_law_265 : decode cL_law 265 = .ok (.iadd, 1) := by decide +kernel
theorem dL_law_266 : decode cL_law 266 = .ok (.iaload, 1) := by decide +kernel
theorem dL_law_267 : decode cL_law 267 = .ok (.invokevirtual 35, 3) := by decide +kernel
theorem dL_law_270 : decode cL_law 270 = .ok (.if_icmp .eq 335, 3) := by decide +kernel
theorem dL_law_275 : decode cL_law 275 = .ok (.aload_n 1, 1) := by decide +kernel
theorem dL_law_276 : decode cL_law 276 = .ok (.aload_n 0, 1) := by decide +kernel
theorem dL_law_277 : decode cL_law 277 = .ok (.iload_n 3, 1) := by decide +kernel
theorem dL_law_278 : decode cL_law 278 = .ok (.iconst 1, 1) := by decide +kernel
theorem dL_law_279 : decode cL_law 279 = .ok (.iadd, 1) := by decide +kernel
theorem dL_law_280 : decode cL_law 280 = .ok (.iaload, 1) := by decide +kernel
theorem dL_law_281 : decode cL_law 281 = .ok (.invokevirtual 36, 3) := by decide +kernel
theorem dL_law_284 : decode cL_law 284 = .ok (.aload_n 2, 1) := by decide +kernel
theorem dL_law_285 : decode cL_law 285 = .ok (.aload_n 0, 1) := by decide +kernel
theorem dL_law_286 : decode cL_law 286 = .ok (.iload_n 3, 1) := by decide +kernel
theorem dL_law_287 : decode cL_law 287 = .ok (.iconst 1, 1) := by decide +kernel
theorem dL_law_288 : decode cL_law 288 = .ok (.iadd, 1) := by decide +kernel
theorem dL_law_289 : decode cL_law 289 = .ok (.iaload, 1) := by decide +kernel
theorem dL_law_290 : decode cL_law 290 = .ok (.invokevirtual 39, 3) := by decide +kernel
theorem dL_law_293 : decode cL_law 293 = .ok (.if_icmp .eq 312, 3) := by decide +kernel
theorem dL_law_298 : decode cL_law 298 = .ok (.aload_n 1, 1) := by decide +kernel
theorem dL_law_299 : decode cL_law 299 = .ok (.invokevirtual 40, 3) := by decide +kernel
theorem dL_law_302 : decode cL_law 302 = .ok (.aload_n 2, 1) := by decide +kernel
theorem dL_law_303 : decode cL_law 303 = .ok (.invokevirtual 44, 3) := by decide +kernel
theorem dL_law_306 : decode cL_law 306 = .ok (.lcmp, 1) := by decide +kernel
theorem dL_law_307 : decode cL_law 307 = .ok (.ifCond .eq 298, 3) := by decide +kernel
theorem dL_law_312 : decode cL_law 312 = .ok (.aload_n 1, 1) := by decide +kernel
theorem dL_law_313 : decode cL_law 313 = .ok (.aload_n 0, 1) := by decide +kernel
theorem dL_law_314 : decode cL_law 314 = .ok (.iload_n 3, 1) := by decide +kernel
theorem dL_law_315 : decode cL_law 315 = .ok (.iconst 1, 1) := by decide +kernel
theorem dL_law_316 : decode cL_law 316 = .ok (.iadd, 1) := by decide +kernel
theorem dL_law_317 : decode cL_law 317 = .ok (.iaload, 1) := by decide +kernel
theorem dL_law_318 : decode cL_law 318 = .ok (.invokevirtual 45, 3) := by decide +kernel
theorem dL_law_321 : decode cL_law 321 = .ok (.aload_n 2, 1) := by decide +kernel
theorem dL_law_322 : decode cL_law 322 = .ok (.aload_n 0, 1) := by decide +kernel
theorem dL_law_323 : decode cL_law 323 = .ok (.iload_n 3, 1) := by decide +kernel
theorem dL_law_324 : decode cL_law 324 = .ok (.iconst 1, 1) := by decide +kernel
theorem dL_law_325 : decode cL_law 325 = .ok (.iadd, 1) := by decide +kernel
theorem dL_law_326 : decode cL_law 326 = .ok (.iaload, 1) := by decide +kernel
theorem dL_law_327 : decode cL_law 327 = .ok (.invokevirtual 48, 3) := by decide +kernel
theorem dL_law_330 : decode cL_law 330 = .ok (.if_icmp .eq 275, 3) := by decide +kernel
theorem dL_law_335 : decode cL_law 335 = .ok (.aload_n 1, 1) := by decide +kernel
theorem dL_law_336 : decode cL_law 336 = .ok (.invokevirtual 49, 3) := by decide +kernel
theorem dL_law_339 : decode cL_law 339 = .ok (.aload_n 2, 1) := by decide +kernel
theorem dL_law_340 : decode cL_law 340 = .ok (.invokevirtual 53, 3) := by decide +kernel
theorem dL_law_343 : decode cL_law 343 = .ok (.if_icmp .eq 262, 3) := by decide +kernel
theorem dL_law_348 : decode cL_law 348 = .ok (.aload_n 1, 1) := by decide +kernel
theorem dL_law_349 : decode cL_law 349 = .ok (.aload_n 0, 1) := by decide +kernel
theorem dL_law_350 : decode cL_law 350 = .ok (.iload_n 3, 1) := by decide +kernel
theorem dL_law_351 : decode cL_law 351 = .ok (.iconst 1, 1) := by decide +kernel
theorem dL_law_352 : decode cL_law 352 = .ok (.iadd, 1) := by decide +kernel
theorem dL_law_353 : decode cL_law 353 = .ok (.iaload, 1) := by decide +kernel
theorem dL_law_354 : decode cL_law 354 = .ok (.invokevirtual 54, 3) := by decide +kernel
theorem dL_law_357 : decode cL_law 357 = .ok (.aload_n 2, 1) := by decide +kernel
theorem dL_law_358 : decode cL_law 358 = .ok (.aload_n 0, 1) := by decide +kernel
theorem dL_law_359 : decode cL_law 359 = .ok (.iload_n 3, 1) := by decide +kernel
theorem dL_law_360 : decode cL_law 360 = .ok (.iconst 1, 1) := by decide +kernel
theorem dL_law_361 : decode cL_law 361 = .ok (.iadd, 1) := by decide +kernel
theorem dL_law_362 : decode cL_law 362 = .ok (.iaload, 1) := by decide +kernel
theorem dL_law_363 : decode cL_law 363 = .ok (.invokevirtual 57, 3) := by decide +kernel
theorem dL_law_366 : decode cL_law 366 = .ok (.if_icmp .eq 239, 3) := by decide +kernel
theorem dL_law_371 : decode cL_law 371 = .ok (.aload_n 1, 1) := by decide +kernel
theorem dL_law_372 : decode cL_law 372 = .ok (.invokevirtual 58, 3) := by decide +kernel
theorem dL_law_375 : decode cL_law 375 = .ok (.aload_n 2, 1) := by decide +kernel
theorem dL_law_376 : decode cL_law 376 = .ok (.invokevirtual 61, 3) := by decide +kernel
theorem dL_law_379 : decode cL_law 379 = .ok (.if_icmp .eq 226, 3) := by decide +kernel
theorem dL_law_384 : decode cL_law 384 = .ok (.aload_n 1, 1) := by decide +kernel
theorem dL_law_385 : decode cL_law 385 = .ok (.aload_n 0, 1) := by decide +kernel
theorem dL_law_386 : decode cL_law 386 = .ok (.iload_n 3, 1) := by decide +kernel
theorem dL_law_387 : decode cL_law 387 = .ok (.iconst 1, 1) := by decide +kernel
theorem dL_law_388 : decode cL_law 388 = .ok (.iadd, 1) := by decide +kernel
theorem dL_law_389 : decode cL_law 389 = .ok (.iaload, 1) := by decide +kernel
theorem dL_law_390 : decode cL_law 390 = .ok (.aload_n 0, 1) := by decide +kernel
theorem dL_law_391 : decode cL_law 391 = .ok (.iload_n 3, 1) := by decide +kernel
theorem dL_law_392 : decode cL_law 392 = .ok (.iconst 2, 1) := by decide +kernel
theorem dL_law_393 : decode cL_law 393 = .ok (.iadd, 1) := by decide +kernel
theorem dL_law_394 : decode cL_law 394 = .ok (.iaload, 1) := by decide +kernel
theorem dL_law_395 : decode cL_law 395 = .ok (.invokevirtual 62, 3) := by decide +kernel
theorem dL_law_398 : decode cL_law 398 = .ok (.aload_n 2, 1) := by decide +kernel
theorem dL_law_399 : decode cL_law 399 = .ok (.aload_n 0, 1) := by decide +kernel
theorem dL_law_400 : decode cL_law 400 = .ok (.iload_n 3, 1) := by decide +kernel
theorem dL_law_401 : decode cL_law 401 = .ok (.iconst 1, 1) := by decide +kernel
theorem dL_law_402 : decode cL_law 402 = .ok (.iadd, 1) := by decide +kernel
theorem dL_law_403 : decode cL_law 403 = .ok (.iaload, 1) := by decide +kernel
theorem dL_law_404 : decode cL_law 404 = .ok (.aload_n 0, 1) := by decide +kernel
theorem dL_law_405 : decode cL_law 405 = .ok (.iload_n 3, 1) := by decide +kernel
theorem dL_law_406 : decode cL_law 406 = .ok (.iconst 2, 1) := by decide +kernel
theorem dL_law_407 : decode cL_law 407 = .ok (.iadd, 1) := by decide +kernel
theorem dL_law_408 : decode cL_law 408 = .ok (.iaload, 1) := by decide +kernel
theorem dL_law_409 : decode cL_law 409 = .ok (.invokevirtual 66, 3) := by decide +kernel
theorem dL_law_412 : decode cL_law 412 = .ok (.if_icmp .eq 193, 3) := by decide +kernel
theorem dL_law_417 : decode cL_law 417 = .ok (.aload_n 1, 1) := by decide +kernel
theorem dL_law_418 : decode cL_law 418 = .ok (.invokevirtual 67, 3) := by decide +kernel
theorem dL_law_421 : decode cL_law 421 = .ok (.aload_n 2, 1) := by decide +kernel
theorem dL_law_422 : decode cL_law 422 = .ok (.invokevirtual 71, 3) := by decide +kernel
theorem dL_law_425 : decode cL_law 425 = .ok (.if_icmp .eq 180, 3) := by decide +kernel
theorem dL_law_430 : decode cL_law 430 = .ok (.aload_n 1, 1) := by decide +kernel
theorem dL_law_431 : decode cL_law 431 = .ok (.aload_n 0, 1) := by decide +kernel
theorem dL_law_432 : decode cL_law 432 = .ok (.iload_n 3, 1) := by decide +kernel
theorem dL_law_433 : decode cL_law 433 = .ok (.iconst 1, 1) := by decide +kernel
theorem dL_law_434 : decode cL_law 434 = .ok (.iadd, 1) := by decide +kernel
theorem dL_law_435 : decode cL_law 435 = .ok (.iaload, 1) := by decide +kernel
theorem dL_law_436 : decode cL_law 436 = .ok (.i2l, 1) := by decide +kernel
theorem dL_law_437 : decode cL_law 437 = .ok (.bipush 32, 2) := by decide +kernel
theorem dL_law_439 : decode cL_law 439 = .ok (.lshl, 1) := by decide +kernel
theorem dL_law_440 : decode cL_law 440 = .ok (.aload_n 0, 1) := by decide +kernel
theorem dL_law_441 : decode cL_law 441 = .ok (.iload_n 3, 1) := by decide +kernel
theorem dL_law_442 : decode cL_law 442 = .ok (.iconst 2, 1) := by decide +kernel
theorem dL_law_443 : decode cL_law 443 = .ok (.iadd, 1) := by decide +kernel
theorem dL_law_444 : decode cL_law 444 = .ok (.iaload, 1) := by decide +kernel
theorem dL_law_445 : decode cL_law 445 = .ok (.i2l, 1) := by decide +kernel
theorem dL_law_446 : decode cL_law 446 = .ok (.ldc2_w 72, 3) := by decide +kernel
theorem dL_law_449 : decode cL_law 449 = .ok (.land, 1) := by decide +kernel
theorem dL_law_450 : decode cL_law 450 = .ok (.lor, 1) := by decide +kernel
theorem dL_law_451 : decode cL_law 451 = .ok (.aload_n 0, 1) := by decide +kernel
theorem dL_law_452 : decode cL_law 452 = .ok (.iload_n 3, 1) := by decide +kernel
theorem dL_law_453 : decode cL_law 453 = .ok (.iconst 3, 1) := by decide +kernel
theorem dL_law_454 : decode cL_law 454 = .ok (.iadd, 1) := by decide +kernel
theorem dL_law_455 : decode cL_law 455 = .ok (.iaload, 1) := by decide +kernel
theorem dL_law_456 : decode cL_law 456 = .ok (.invokevirtual 74, 3) := by decide +kernel
theorem dL_law_459 : decode cL_law 459 = .ok (.aload_n 2, 1) := by decide +kernel
theorem dL_law_460 : decode cL_law 460 = .ok (.aload_n 0, 1) := by decide +kernel
theorem dL_law_461 : decode cL_law 461 = .ok (.iload_n 3, 1) := by decide +kernel
theorem dL_law_462 : decode cL_law 462 = .ok (.iconst 1, 1) := by decide +kernel
theorem dL_law_463 : decode cL_law 463 = .ok (.iadd, 1) := by decide +kernel
theorem dL_law_464 : decode cL_law 464 = .ok (.iaload, 1) := by decide +kernel
theorem dL_law_465 : decode cL_law 465 = .ok (.i2l, 1) := by decide +kernel
theorem dL_law_466 : decode cL_law 466 = .ok (.bipush 32, 2) := by decide +kernel
theorem dL_law_468 : decode cL_law 468 = .ok (.lshl, 1) := by decide +kernel
theorem dL_law_469 : decode cL_law 469 = .ok (.aload_n 0, 1) := by decide +kernel
theorem dL_law_470 : decode cL_law 470 = .ok (.iload_n 3, 1) := by decide +kernel
theorem dL_law_471 : decode cL_law 471 = .ok (.iconst 2, 1) := by decide +kernel
theorem dL_law_472 : decode cL_law 472 = .ok (.iadd, 1) := by decide +kernel
theorem dL_law_473 : decode cL_law 473 = .ok (.iaload, 1) := by decide +kernel
theorem dL_law_474 : decode cL_law 474 = .ok (.i2l, 1) := by decide +kernel
theorem dL_law_475 : decode cL_law 475 = .ok (.ldc2_w 72, 3) := by decide +kernel
theorem dL_law_478 : decode cL_law 478 = .ok (.land, 1) := by decide +kernel
theorem dL_law_479 : decode cL_law 479 = .ok (.lor, 1) := by decide +kernel
theorem dL_law_480 : decode cL_law 480 = .ok (.aload_n 0, 1) := by decide +kernel
theorem dL_law_481 : decode cL_law 481 = .ok (.iload_n 3, 1) := by decide +kernel
theorem dL_law_482 : decode cL_law 482 = .ok (.iconst 3, 1) := by decide +kernel
theorem dL_law_483 : decode cL_law 483 = .ok (.iadd, 1) := by decide +kernel
theorem dL_law_484 : decode cL_law 484 = .ok (.iaload, 1) := by decide +kernel
theorem dL_law_485 : decode cL_law 485 = .ok (.invokevirtual 78, 3) := by decide +kernel
theorem dL_law_488 : decode cL_law 488 = .ok (.if_icmp .eq 117, 3) := by decide +kernel
theorem dL_law_493 : decode cL_law 493 = .ok (.aload_n 1, 1) := by decide +kernel
theorem dL_law_494 : decode cL_law 494 = .ok (.invokevirtual 79, 3) := by decide +kernel
theorem dL_law_497 : decode cL_law 497 = .ok (.aload_n 2, 1) := by decide +kernel
theorem dL_law_498 : decode cL_law 498 = .ok (.invokevirtual 82, 3) := by decide +kernel
theorem dL_law_501 : decode cL_law 501 = .ok (.if_icmp .eq 104, 3) := by decide +kernel
theorem dL_law_506 : decode cL_law 506 = .ok (.aload_n 1, 1) := by decide +kernel
theorem dL_law_507 : decode cL_law 507 = .ok (.aload_n 0, 1) := by decide +kernel
theorem dL_law_508 : decode cL_law 508 = .ok (.iload_n 3, 1) := by decide +kernel
theorem dL_law_509 : decode cL_law 509 = .ok (.iconst 1, 1) := by decide +kernel
theorem dL_law_510 : decode cL_law 510 = .ok (.iadd, 1) := by decide +kernel
theorem dL_law_511 : decode cL_law 511 = .ok (.iaload, 1) := by decide +kernel
theorem dL_law_512 : decode cL_law 512 = .ok (.aload_n 0, 1) := by decide +kernel
theorem dL_law_513 : decode cL_law 513 = .ok (.iload_n 3, 1) := by decide +kernel
theorem dL_law_514 : decode cL_law 514 = .ok (.iconst 2, 1) := by decide +kernel
theorem dL_law_515 : decode cL_law 515 = .ok (.iadd, 1) := by decide +kernel
theorem dL_law_516 : decode cL_law 516 = .ok (.iaload, 1) := by decide +kernel
theorem dL_law_517 : decode cL_law 517 = .ok (.invokevirtual 83, 3) := by decide +kernel
theorem dL_law_520 : decode cL_law 520 = .ok (.aload_n 2, 1) := by decide +kernel
theorem dL_law_521 : decode cL_law 521 = .ok (.aload_n 0, 1) := by decide +kernel
theorem dL_law_522 : decode cL_law 522 = .ok (.iload_n 3, 1) := by decide +kernel
theorem dL_law_523 : decode cL_law 523 = .ok (.iconst 1, 1) := by decide +kernel
theorem dL_law_524 : decode cL_law 524 = .ok (.iadd, 1) := by decide +kernel
theorem dL_law_525 : decode cL_law 525 = .ok (.iaload, 1) := by decide +kernel
theorem dL_law_526 : decode cL_law 526 = .ok (.aload_n 0, 1) := by decide +kernel
theorem dL_law_527 : decode cL_law 527 = .ok (.iload_n 3, 1) := by decide +kernel
theorem dL_law_528 : decode cL_law 528 = .ok (.iconst 2, 1) := by decide +kernel
theorem dL_law_529 : decode cL_law 529 = .ok (.iadd, 1) := by decide +kernel
theorem dL_law_530 : decode cL_law 530 = .ok (.iaload, 1) := by decide +kernel
theorem dL_law_531 : decode cL_law 531 = .ok (.invokevirtual 87, 3) := by decide +kernel
theorem dL_law_534 : decode cL_law 534 = .ok (.if_icmp .eq 71, 3) := by decide +kernel
theorem dL_law_539 : decode cL_law 539 = .ok (.aload_n 1, 1) := by decide +kernel
theorem dL_law_540 : decode cL_law 540 = .ok (.aload_n 0, 1) := by decide +kernel
theorem dL_law_541 : decode cL_law 541 = .ok (.iload_n 3, 1) := by decide +kernel
theorem dL_law_542 : decode cL_law 542 = .ok (.iconst 1, 1) := by decide +kernel
theorem dL_law_543 : decode cL_law 543 = .ok (.iadd, 1) := by decide +kernel
theorem dL_law_544 : decode cL_law 544 = .ok (.iaload, 1) := by decide +kernel
theorem dL_law_545 : decode cL_law 545 = .ok (.aload_n 0, 1) := by decide +kernel
theorem dL_law_546 : decode cL_law 546 = .ok (.iload_n 3, 1) := by decide +kernel
theorem dL_law_547 : decode cL_law 547 = .ok (.iconst 2, 1) := by decide +kernel
theorem dL_law_548 : decode cL_law 548 = .ok (.iadd, 1) := by decide +kernel
theorem dL_law_549 : decode cL_law 549 = .ok (.iaload, 1) := by decide +kernel
theorem dL_law_550 : decode cL_law 550 = .ok (.invokevirtual 88, 3) := by decide +kernel
theorem dL_law_553 : decode cL_law 553 = .ok (.aload_n 2, 1) := by decide +kernel
theorem dL_law_554 : decode cL_law 554 = .ok (.aload_n 0, 1) := by decide +kernel
theorem dL_law_555 : decode cL_law 555 = .ok (.iload_n 3, 1) := by decide +kernel
theorem dL_law_556 : decode cL_law 556 = .ok (.iconst 1, 1) := by decide +kernel
theorem dL_law_557 : decode cL_law 557 = .ok (.iadd, 1) := by decide +kernel
theorem dL_law_558 : decode cL_law 558 = .ok (.iaload, 1) := by decide +kernel
theorem dL_law_559 : decode cL_law 559 = .ok (.aload_n 0, 1) := by decide +kernel
theorem dL_law_560 : decode cL_law 560 = .ok (.iload_n 3, 1) := by decide +kernel
theorem dL_law_561 : decode cL_law 561 = .ok (.iconst 2, 1) := by decide +kernel
theorem dL_law_562 : decode cL_law 562 = .ok (.iadd, 1) := by decide +kernel
theorem dL_law_563 : decode cL_law 563 = .ok (.iaload, 1) := by decide +kernel
theorem dL_law_564 : decode cL_law 564 = .ok (.invokevirtual 91, 3) := by decide +kernel
theorem dL_law_567 : decode cL_law 567 = .ok (.if_icmp .eq 38, 3) := by decide +kernel
theorem dL_law_572 : decode cL_law 572 = .ok (.aload_n 1, 1) := by decide +kernel
theorem dL_law_573 : decode cL_law 573 = .ok (.aload_n 0, 1) := by decide +kernel
theorem dL_law_574 : decode cL_law 574 = .ok (.iload_n 3, 1) := by decide +kernel
theorem dL_law_575 : decode cL_law 575 = .ok (.iconst 1, 1) := by decide +kernel
theorem dL_law_576 : decode cL_law 576 = .ok (.iadd, 1) := by decide +kernel
theorem dL_law_577 : decode cL_law 577 = .ok (.iaload, 1) := by decide +kernel
theorem dL_law_578 : decode cL_law 578 = .ok (.aload_n 0, 1) := by decide +kernel
theorem dL_law_579 : decode cL_law 579 = .ok (.iload_n 3, 1) := by decide +kernel
theorem dL_law_580 : decode cL_law 580 = .ok (.iconst 2, 1) := by decide +kernel
theorem dL_law_581 : decode cL_law 581 = .ok (.iadd, 1) := by decide +kernel
theorem dL_law_582 : decode cL_law 582 = .ok (.iaload, 1) := by decide +kernel
theorem dL_law_583 : decode cL_law 583 = .ok (.invokevirtual 92, 3) := by decide +kernel
theorem dL_law_586 : decode cL_law 586 = .ok (.aload_n 2, 1) := by decide +kernel
theorem dL_law_587 : decode cL_law 587 = .ok (.aload_n 0, 1) := by decide +kernel
theorem dL_law_588 : decode cL_law 588 = .ok (.iload_n 3, 1) := by decide +kernel
theorem dL_law_589 : decode cL_law 589 = .ok (.iconst 1, 1) := by decide +kernel
theorem dL_law_590 : decode cL_law 590 = .ok (.iadd, 1) := by decide +kernel
theorem dL_law_591 : decode cL_law 591 = .ok (.iaload, 1) := by decide +kernel
theorem dL_law_592 : decode cL_law 592 = .ok (.aload_n 0, 1) := by decide +kernel
theorem dL_law_593 : decode cL_law 593 = .ok (.iload_n 3, 1) := by decide +kernel
theorem dL_law_594 : decode cL_law 594 = .ok (.iconst 2, 1) := by decide +kernel
theorem dL_law_595 : decode cL_law 595 = .ok (.iadd, 1) := by decide +kernel
theorem dL_law_596 : decode cL_law 596 = .ok (.iaload, 1) := by decide +kernel
theorem dL_law_597 : decode cL_law 597 = .ok (.invokevirtual 95, 3) := by decide +kernel
theorem dL_law_600 : decode cL_law 600 = .ok (.if_icmp .eq 5, 3) := by decide +kernel
theorem dL_law_605 : decode cL_law 605 = .ok (.iinc 3 6, 3) := by decide +kernel
theorem dL_law_608 : decode cL_law 608 = .ok (.goto (-590), 3) := by decide +kernel
theorem dL_law_611 : decode cL_law 611 = .ok (.iconst 1, 1) := by decide +kernel
theorem dL_law_612 : decode cL_law 612 = .ok (.ireturn, 1) := by decide +kernel
theorem dX0_accept_0 : decode cX0_accept 0 = .ok (.aload_n 0, 1) := by decide +kernel
theorem dX0_accept_1 : decode cX0_accept 1 = .ok (.getfield 57, 3) := by decide +kernel
theorem dX0_accept_4 : decode cX0_accept 4 = .ok (.iconst (-1), 1) := by decide +kernel
theorem dX0_accept_5 : decode cX0_accept 5 = .ok (.if_icmp .ne 23, 3) := by decide +kernel
theorem dX0_accept_8 : decode cX0_accept 8 = .ok (.aload_n 0, 1) := by decide +kernel
theorem dX0_accept_9 : decode cX0_accept 9 = .ok (.getfield 40, 3) := by decide +kernel
theorem dX0_accept_12 : decode cX0_accept 12 = .ok (.getfield 125, 3) := by decide +kernel
theorem dX0_accept_15 : decode cX0_accept 15 = .ok (.aload_n 0, 1) := by decide +kernel
theorem dX0_accept_16 : decode cX0_accept 16 = .ok (.getfield 60, 3) := by decide +kernel
theorem dX0_accept_19 : decode cX0_accept 19 = .ok (.iaload, 1) := by decide +kernel
theorem dX0_accept_20 : decode cX0_accept 20 = .ok (.iload_n 1, 1) := by decide +kernel
theorem dX0_accept_21 : decode cX0_accept 21 = .ok (.if_icmp .ne 7, 3) := by decide +kernel
theorem dX0_accept_28 : decode cX0_accept 28 = .ok (.iconst 0, 1) := by decide +kernel
theorem dX0_accept_29 : decode cX0_accept 29 = .ok (.istore_n 2, 1) := by decide +kernel
theorem dX0_accept_30 : decode cX0_accept 30 = .ok (.aload_n 0, 1) := by decide +kernel
theorem dX0_accept_31 : decode cX0_accept 31 = .ok (.dup, 1) := by decide +kernel
theorem dX0_accept_32 : decode cX0_accept 32 = .ok (.getfield 60, 3) := by decide +kernel
theorem dX0_accept_35 : decode cX0_accept 35 = .ok (.iload_n 2, 1) := by decide +kernel
theorem dX0_accept_36 : decode cX0_accept 36 = .ok (.ifCond .eq 7, 3) := by decide +kernel
theorem dX0_accept_43 : decode cX0_accept 43 = .ok (.iconst 0, 1) := by decide +kernel
theorem dX0_accept_44 : decode cX0_accept 44 = .ok (.iadd, 1) := by decide +kernel
theorem dX0_accept_45 : decode cX0_accept 45 = .ok (.putfield 60, 3) := by decide +kernel
theorem dX0_accept_48 : decode cX0_accept 48 = .ok (.iload_n 2, 1) := by decide +kernel
theorem dX0_accept_49 : decode cX0_accept 49 = .ok (.ireturn, 1) := by decide +kernel
theorem dX0_init_0 : decode cX0_init 0 = .ok (.aload_n 0, 1) := by decide +kernel
theorem dX0_init_1 : decode cX0_init 1 = .ok (.invokespecial 3, 3) := by decide +kernel
theorem dX0_init_4 : decode cX0_init 4 = .ok (.aload_n 0, 1) := by decide +kernel
theorem dX0_init_5 : decode cX0_init 5 = .ok (.sipush 224, 3) := by decide +kernel
theorem dX0_init_8 : decode cX0_init 8 = .ok (.newarray .int, 2) := by decide +kernel
theorem dX0_init_10 : decode cX0_init 10 = .ok (.putfield 11, 3) := by decide +kernel
theorem dX0_init_13 : decode cX0_init 13 = .ok (.aload_n 0, 1) := by decide +kernel
theorem dX0_init_14 : decode cX0_init 14 = .ok (.sipush 224, 3) := by decide +kernel
theorem dX0_init_17 : decode cX0_init 17 = .ok (.newarray .boolean, 2) := by decide +kernel
theorem dX0_init_19 : decode cX0_init 19 = .ok (.putfield 15, 3) := by decide +kernel
theorem dX0_init_22 : decode cX0_init 22 = .ok (.aload_n 0, 1) := by decide +kernel
theorem dX0_init_23 : decode cX0_init 23 = .ok (.sipush 502, 3) := by decide +kernel
theorem dX0_init_26 : decode cX0_init 26 = .ok (.newarray .int, 2) := by decide +kernel
theorem dX0_init_28 : decode cX0_init 28 = .ok (.putfield 19, 3) := by decide +kernel
theorem dX0_init_31 : decode cX0_init 31 = .ok (.aload_n 0, 1) := by decide +kernel
theorem dX0_init_32 : decode cX0_init 32 = .ok (.sipush 502, 3) := by decide +kernel
theorem dX0_init_35 : decode cX0_init 35 = .ok (.newarray .int, 2) := by decide +kernel
theorem dX0_init_37 : decode cX0_init 37 = .ok (.putfield 22, 3) := by decide +kernel
theorem dX0_init_40 : decode cX0_init 40 = .ok (.aload_n 0, 1) := by decide +kernel
theorem dX0_init_41 : decode cX0_init 41 = .ok (.sipush 502, 3) := by decide +kernel
theorem dX0_init_44 : decode cX0_init 44 = .ok (.newarray .int, 2) := by decide +kernel
theorem dX0_init_46 : decode cX0_init 46 = .ok (.putfield 25, 3) := by decide +kernel
theorem dX0_init_49 : decode cX0_init 49 = .ok (.aload_n 0, 1) := by decide +kernel
theorem dX0_init_50 : decode cX0_init 50 = .ok (.sipush 502, 3) := by decide +kernel
theorem dX0_init_53 : decode cX0_init 53 = .ok (.newarray .int, 2) := by decide +kernel
theorem dX0_init_55 : decode cX0_init 55 = .ok (.putfield 28, 3) := by decide +kernel
theorem dX0_init_58 : decode cX0_init 58 = .ok (.aload_n 0, 1) := by decide +kernel
theorem dX0_init_59 : decode cX0_init 59 = .ok (.sipush 502, 3) := by decide +kernel
theorem dX0_init_62 : decode cX0_init 62 = .ok (.newarray .int, 2) := by decide +kernel
theorem dX0_init_64 : decode cX0_init 64 = .ok (.putfield 31, 3) := by decide +kernel
theorem dX0_init_67 : decode cX0_init 67 = .ok (.aload_n 0, 1) := by decide +kernel
theorem dX0_init_68 : decode cX0_init 68 = .ok (.sipush 502, 3) := by decide +kernel
theorem dX0_init_71 : decode cX0_init 71 = .ok (.newarray .int, 2) := by decide +kernel
theorem dX0_init_73 : decode cX0_init 73 = .ok (.putfield 34, 3) := by decide +kernel
theorem dX0_init_76 : decode cX0_init 76 = .ok (.aload_n 0, 1) := by decide +kernel
theorem dX0_init_77 : decode cX0_init 77 = .ok (.sipush 502, 3) := by decide +kernel
theorem dX0_init_80 : decode cX0_init 80 = .ok (.newarray .boolean, 2) := by decide +kernel
theorem dX0_init_82 : decode cX0_init 82 = .ok (.putfield 37, 3) := by decide +kernel
theorem dX0_init_85 : decode cX0_init 85 = .ok (.aload_n 0, 1) := by decide +kernel
theorem dX0_init_86 : decode cX0_init 86 = .ok (.aload_n 1, 1) := by decide +kernel
theorem dX0_init_87 : decode cX0_init 87 = .ok (.putfield 40, 3) := by decide +kernel
theorem dX0_init_90 : decode cX0_init 90 = .ok (.return_, 1) := by decide +kernel
theorem dX0_isGood_0 : decode cX0_isGood 0 = .ok (.aload_n 0, 1) := by decide +kernel
theorem dX0_isGood_1 : decode cX0_isGood 1 = .ok (.getfield 57, 3) := by decide +kernel
theorem dX0_isGood_4 : decode cX0_isGood 4 = .ok (.iconst (-1), 1) := by decide +kernel
theorem dX0_isGood_5 : decode cX0_isGood 5 = .ok (.if_icmp .ne 7, 3) := by decide +kernel
theorem dX0_isGood_12 : decode cX0_isGood 12 = .ok (.iconst 0, 1) := by decide +kernel
theorem dX0_isGood_13 : decode cX0_isGood 13 = .ok (.ireturn, 1) := by decide +kernel
theorem dX0_need_0 : decode cX0_need 0 = .ok (.iload_n 1, 1) := by decide +kernel
theorem dX0_need_1 : decode cX0_need 1 = .ok (.bipush 40, 2) := by decide +kernel
theorem dX0_need_3 : decode cX0_need 3 = .ok (.if_icmp .eq 15, 3) := by decide +kernel
theorem dX0_need_6 : decode cX0_need 6 = .ok (.iload_n 1, 1) := by decide +kernel
theorem dX0_need_7 : decode cX0_need 7 = .ok (.bipush 42, 2) := by decide +kernel
theorem dX0_need_9 : decode cX0_need 9 = .ok (.if_icmp .eq 9, 3) := by decide +kernel
theorem dX0_need_12 : decode cX0_need 12 = .ok (.iload_n 1, 1) := by decide +kernel
theorem dX0_need_13 : decode cX0_need 13 = .ok (.bipush 44, 2) := by decide +kernel
theorem dX0_need_15 : decode cX0_need 15 = .ok (.if_icmp .ne 7, 3) := by decide +kernel
theorem dX0_need_18 : decode cX0_need 18 = .ok (.iconst 1, 1) := by decide +kernel
theorem dX0_need_19 : decode cX0_need 19 = .ok (.goto 4, 3) := by decide +kernel
theorem dX0_need_22 : decode cX0_need 22 = .ok (.iconst 0, 1) := by decide +kernel
theorem dX0_need_23 : decode cX0_need 23 = .ok (.istore_n 2, 1) := by decide +kernel
theorem dX0_need_24 : decode cX0_need 24 = .ok (.iload_n 1, 1) := by decide +kernel
theorem dX0_need_25 : decode cX0_need 25 = .ok (.bipush 41, 2) := by decide +kernel
theorem dX0_need_27 : decode cX0_need 27 = .ok (.if_icmp .eq 15, 3) := by decide +kernel
theorem dX0_need_30 : decode cX0_need 30 = .ok (.iload_n 1, 1) := by decide +kernel
theorem dX0_need_31 : decode cX0_need 31 = .ok (.bipush 43, 2) := by decide +kernel
theorem dX0_need_33 : decode cX0_need 33 = .ok (.if_icmp .eq 9, 3) := by decide +kernel
theorem dX0_need_36 : decode cX0_need 36 = .ok (.iload_n 1, 1) := by decide +kernel
theorem dX0_need_37 : decode cX0_need 37 = .ok (.bipush 45, 2) := by decide +kernel
theorem dX0_need_39 : decode cX0_need 39 = .ok (.if_icmp .ne 7, 3) := by decide +kernel
theorem dX0_need_42 : decode cX0_need 42 = .ok (.iconst 1, 1) := by decide +kernel
theorem dX0_need_43 : decode cX0_need 43 = .ok (.goto 4, 3) := by decide +kernel
theorem dX0_need_46 : decode cX0_need 46 = .ok (.iconst 0, 1) := by decide +kernel
theorem dX0_need_47 : decode cX0_need 47 = .ok (.istore_n 3, 1) := by decide +kernel
theorem dX0_need_48 : decode cX0_need 48 = .ok (.aload_n 0, 1) := by decide +kernel
theorem dX0_need_49 : decode cX0_need 49 = .ok (.getfield 57, 3) := by decide +kernel
theorem dX0_need_52 : decode cX0_need 52 = .ok (.iconst (-1), 1) := by decide +kernel
theorem dX0_need_53 : decode cX0_need 53 = .ok (.if_icmp .eq 4, 3) := by decide +kernel
theorem dX0_need_56 : decode cX0_need 56 = .ok (.return_, 1) := by decide +kernel
theorem dX0_need_57 : decode cX0_need 57 = .ok (.aload_n 0, 1) := by decide +kernel
theorem dX0_need_58 : decode cX0_need 58 = .ok (.getfield 40, 3) := by decide +kernel
theorem dX0_need_61 : decode cX0_need 61 = .ok (.getfield 125, 3) := by decide +kernel
theorem dX0_need_64 : decode cX0_need 64 = .ok (.aload_n 0, 1) := by decide +kernel
theorem dX0_need_65 : decode cX0_need 65 = .ok (.getfield 60, 3) := by decide +kernel
theorem dX0_need_68 : decode cX0_need 68 = .ok (.iaload, 1) := by decide +kernel
theorem dX0_need_69 : decode cX0_need 69 = .ok (.iload_n 1, 1) := by decide +kernel
theorem dX0_need_70 : decode cX0_need 70 = .ok (.if_icmp .ne 55, 3) := by decide +kernel
theorem dX0_need_125 : decode cX0_need 125 = .ok (.aload_n 0, 1) := by decide +kernel
theorem dX0_need_126 : decode cX0_need 126 = .ok (.aload_n 0, 1) := by decide +kernel
theorem dX0_need_127 : decode cX0_need 127 = .ok (.getfield 40, 3) := by decide +kernel
theorem dX0_need_130 : decode cX0_need 130 = .ok (.getfield 156, 3) := by decide +kernel
theorem dX0_need_133 : decode cX0_need 133 = .ok (.aload_n 0, 1) := by decide +kernel
theorem dX0_need_134 : decode cX0_need 134 = .ok (.getfield 60, 3) := by decide +kernel
theorem dX0_need_137 : decode cX0_need 137 = .ok (.iaload, 1) := by decide +kernel
theorem dX0_need_138 : decode cX0_need 138 = .ok (.putfield 57, 3) := by decide +kernel
theorem dX0_need_141 : decode cX0_need 141 = .ok (.return_, 1) := by decide +kernel
theorem dX0_readClassHead_0 : decode cX0_readClassHead 0 = .ok (.aload_n 0, 1) := by decide +kernel
theorem dX0_readClassHead_1 : decode cX0_readClassHead 1 = .ok (.bipush 17, 2) := by decide +kernel
theorem dX0_readClassHead_3 : decode cX0_readClassHead 3 = .ok (.invokevirtual 86, 3) := by decide +kernel
theorem dX0_readClassHead_6 : decode cX0_readClassHead 6 = .ok (.istore_n 1, 1) := by decide +kernel
theorem dX0_readClassHead_7 : decode cX0_readClassHead 7 = .ok (.aload_n 0, 1) := by decide +kernel
theorem dX0_readClassHead_8 : decode cX0_readClassHead 8 = .ok (.bipush 11, 2) := by decide +kernel
theorem dX0_readClassHead_10 : decode cX0_readClassHead 10 = .ok (.invokevirtual 82, 3) := by decide +kernel
theorem dX0_readClassHead_13 : decode cX0_readClassHead 13 = .ok (.aload_n 0, 1) := by decide +kernel
theorem dX0_readClassHead_14 : decode cX0_readClassHead 14 = .ok (.getfield 44, 3) := by decide +kernel
theorem dX0_readClassHead_17 : decode cX0_readClassHead 17 = .ok (.sipush 224, 3) := by decide +kernel
theorem dX0_readClassHead_20 : decode cX0_readClassHead 20 = .ok (.if_icmp .ge 36, 3) := by decide +kernel
theorem dX0_readClassHead_23 : decode cX0_readClassHead 23 = .ok (.aload_n 0, 1) := by decide +kernel
theorem dX0_readClassHead_24 : decode cX0_readClassHead 24 = .ok (.getfield 11, 3) := by decide +kernel
theorem dX0_readClassHead_27 : decode cX0_readClassHead 27 = .ok (.aload_n 0, 1) := by decide +kernel
theorem dX0_readClassHead_28 : decode cX0_readClassHead 28 = .ok (.getfield 44, 3) := by decide +kernel
theorem dX0_readClassHead_31 : decode cX0_readClassHead 31 = .ok (.aload_n 0, 1) := by decide +kernel
theorem dX0_readClassHead_32 : decode cX0_readClassHead 32 = .ok (.getfield 60, 3) := by decide +kernel
theorem dX0_readClassHead_35 : decode cX0_readClassHead 35 = .ok (.iastore, 1) := by decide +kernel
theorem dX0_readClassHead_36 : decode cX0_readClassHead 36 = .ok (.aload_n 0, 1) := by decide +kernel
theorem dX0_readClassHead_37 : decode cX0_readClassHead 37 = .ok (.getfield 15, 3) := by decide +kernel
theorem dX0_readClassHead_40 : decode cX0_readClassHead 40 = .ok (.aload_n 0, 1) := by decide +kernel
theorem dX0_readClassHead_41 : decode cX0_readClassHead 41 = .ok (.getfield 44, 3) := by decide +kernel
theorem dX0_readClassHead_44 : decode cX0_readClassHead 44 = .ok (.iload_n 1, 1) := by decide +kernel
theorem dX0_readClassHead_45 : decode cX0_readClassHead 45 = .ok (.bastore, 1) := by decide +kernel
theorem dX0_readClassHead_46 : decode cX0_readClassHead 46 = .ok (.aload_n 0, 1) := by decide +kernel
theorem dX0_readClassHead_47 : decode cX0_readClassHead 47 = .ok (.dup, 1) := by decide +kernel
theorem dX0_readClassHead_48 : decode cX0_readClassHead 48 = .ok (.getfield 44, 3) := by decide +kernel
theorem dX0_readClassHead_51 : decode cX0_readClassHead 51 = .ok (.iconst 1, 1) := by decide +kernel
theorem dX0_readClassHead_52 : decode cX0_readClassHead 52 = .ok (.iadd, 1) := by decide +kernel
theorem dX0_readClassHead_53 : decode cX0_readClassHead 53 = .ok (.putfield 44, 3) := by decide +kernel
theorem dX0_readClassHead_56 : decode cX0_readClassHead 56 = .ok (.aload_n 0, 1) := by decide +kernel
theorem dX0_readClassHead_57 : decode cX0_readClassHead 57 = .ok (.iconst 2, 1) := by decide +kernel
theorem dX0_readClassHead_58 : decode cX0_readClassHead 58 = .ok (.invokevirtual 82, 3) := by decide +kernel
theorem dX0_readClassHead_61 : decode cX0_readClassHead 61 = .ok (.aload_n 0, 1) := by decide +kernel
theorem dX0_readClassHead_62 : decode cX0_readClassHead 62 = .ok (.bipush 42, 2) := by decide +kernel
theorem dX0_readClassHead_64 : decode cX0_readClassHead 64 = .ok (.invokevirtual 82, 3) := by decide +kernel
theorem dX0_readClassHead_67 : decode cX0_readClassHead 67 = .ok (.aload_n 0, 1) := by decide +kernel
theorem dX0_readClassHead_68 : decode cX0_readClassHead 68 = .ok (.iconst 0, 1) := by decide +kernel
theorem dX0_readClassHead_69 : decode cX0_readClassHead 69 = .ok (.putfield 90, 3) := by decide +kernel
theorem dX0_readClassHead_72 : decode cX0_readClassHead 72 = .ok (.return_, 1) := by decide +kernel
theorem dX0_readProgram_0 : decode cX0_readProgram 0 = .ok (.aload_n 0, 1) := by decide +kernel
theorem dX0_readProgram_1 : decode cX0_readProgram 1 = .ok (.iconst 0, 1) := by decide +kernel
theorem dX0_readProgram_2 : decode cX0_readProgram 2 = .ok (.putfield 44, 3) := by decide +kernel
theorem dX0_readProgram_5 : decode cX0_readProgram 5 = .ok (.aload_n 0, 1) := by decide +kernel
theorem dX0_readProgram_6 : decode cX0_readProgram 6 = .ok (.iconst 0, 1) := by decide +kernel
theorem dX0_readProgram_7 : decode cX0_readProgram 7 = .ok (.putfield 48, 3) := by decide +kernel
theorem dX0_readProgram_10 : decode cX0_readProgram 10 = .ok (.aload_n 0, 1) := by decide +kernel
theorem dX0_readProgram_11 : decode cX0_readProgram 11 = .ok (.iconst 0, 1) := by decide +kernel
theorem dX0_readProgram_12 : decode cX0_readProgram 12 = .ok (.putfield 51, 3) := by decide +kernel
theorem dX0_readProgram_15 : decode cX0_readProgram 15 = .ok (.aload_n 0, 1) := by decide +kernel
theorem dX0_readProgram_16 : decode cX0_readProgram 16 = .ok (.iconst 0, 1) := by decide +kernel
theorem dX0_readProgram_17 : decode cX0_readProgram 17 = .ok (.putfield 54, 3) := by decide +kernel
theorem dX0_readProgram_20 : decode cX0_readProgram 20 = .ok (.aload_n 0, 1) := by decide +kernel
theorem dX0_readProgram_21 : decode cX0_readProgram 21 = .ok (.iconst (-1), 1) := by decide +kernel
theorem dX0_readProgram_22 : decode cX0_readProgram 22 = .ok (.putfield 57, 3) := by decide +kernel
theorem dX0_readProgram_25 : decode cX0_readProgram 25 = .ok (.aload_n 0, 1) := by decide +kernel
theorem dX0_readProgram_26 : decode cX0_readProgram 26 = .ok (.iconst 0, 1) := by decide +kernel
theorem dX0_readProgram_27 : decode cX0_readProgram 27 = .ok (.putfield 60, 3) := by decide +kernel
theorem dX0_readProgram_30 : decode cX0_readProgram 30 = .ok (.aload_n 0, 1) := by decide +kernel
theorem dX0_readProgram_31 : decode cX0_readProgram 31 = .ok (.iconst 0, 1) := by decide +kernel
theorem dX0_readProgram_32 : decode cX0_readProgram 32 = .ok (.putfield 63, 3) := by decide +kernel
theorem dX0_readProgram_35 : decode cX0_readProgram 35 = .ok (.iconst 1, 1) := by decide +kernel
theorem dX0_readProgram_36 : decode cX0_readProgram 36 = .ok (.istore_n 1, 1) := by decide +kernel
theorem dX0_readProgram_37 : decode cX0_readProgram 37 = .ok (.iconst 0, 1) := by decide +kernel
theorem dX0_readProgram_38 : decode cX0_readProgram 38 = .ok (.istore_n 2, 1) := by decide +kernel
theorem dX0_readProgram_39 : decode cX0_readProgram 39 = .ok (.iload_n 2, 1) := by decide +kernel
theorem dX0_readProgram_40 : decode cX0_readProgram 40 = .ok (.sipush 224, 3) := by decide +kernel
theorem dX0_readProgram_43 : decode cX0_readProgram 43 = .ok (.if_icmp .ge 78, 3) := by decide +kernel
theorem dX0_readProgram_46 : decode cX0_readProgram 46 = .ok (.iload_n 1, 1) := by decide +kernel
theorem dX0_readProgram_47 : decode cX0_readProgram 47 = .ok (.ifCond .eq 74, 3) := by decide +kernel
theorem dX0_readProgram_50 : decode cX0_readProgram 50 = .ok (.aload_n 0, 1) := by decide +kernel
theorem dX0_readProgram_51 : decode cX0_readProgram 51 = .ok (.invokevirtual 66, 3) := by decide +kernel
theorem dX0_readProgram_54 : decode cX0_readProgram 54 = .ok (.iconst 0, 1) := by decide +kernel
theorem dX0_readProgram_55 : decode cX0_readProgram 55 = .ok (.istore_n 3, 1) := by decide +kernel
theorem dX0_readProgram_56 : decode cX0_readProgram 56 = .ok (.iload_n 3, 1) := by decide +kernel
theorem dX0_readProgram_57 : decode cX0_readProgram 57 = .ok (.sipush 502, 3) := by decide +kernel
theorem dX0_readProgram_60 : decode cX0_readProgram 60 = .ok (.if_icmp .ge 29, 3) := by decide +kernel
theorem dX0_readProgram_63 : decode cX0_readProgram 63 = .ok (.aload_n 0, 1) := by decide +kernel
theorem dX0_readProgram_64 : decode cX0_readProgram 64 = .ok (.invokevirtual 69, 3) := by decide +kernel
theorem dX0_readProgram_67 : decode cX0_readProgram 67 = .ok (.ifCond .eq 22, 3) := by decide +kernel
theorem dX0_readProgram_89 : decode cX0_readProgram 89 = .ok (.aload_n 0, 1) := by decide +kernel
theorem dX0_readProgram_90 : decode cX0_readProgram 90 = .ok (.bipush 43, 2) := by decide +kernel
theorem dX0_readProgram_92 : decode cX0_readProgram 92 = .ok (.invokevirtual 82, 3) := by decide +kernel
theorem dX0_readProgram_95 : decode cX0_readProgram 95 = .ok (.aload_n 0, 1) := by decide +kernel
theorem dX0_readProgram_96 : decode cX0_readProgram 96 = .ok (.invokevirtual 69, 3) := by decide +kernel
theorem dX0_readProgram_99 : decode cX0_readProgram 99 = .ok (.ifCond .eq 14, 3) := by decide +kernel
theorem dX0_readProgram_113 : decode cX0_readProgram 113 = .ok (.iconst 0, 1) := by decide +kernel
theorem dX0_readProgram_114 : decode cX0_readProgram 114 = .ok (.istore_n 1, 1) := by decide +kernel
theorem dX0_readProgram_115 : decode cX0_readProgram 115 = .ok (.iinc 2 1, 3) := by decide +kernel
theorem dX0_readProgram_118 : decode cX0_readProgram 118 = .ok (.goto (-79), 3) := by decide +kernel
theorem dX0_readProgram_121 : decode cX0_readProgram 121 = .ok (.return_, 1) := by decide +kernel
theorem dX10_init_0 : decode cX10_init 0 = .ok (.aload_n 0, 1) := by decide +kernel
theorem dX10_init_1 : decode cX10_init 1 = .ok (.invokespecial 3, 3) := by decide +kernel
theorem dX10_init_4 : decode cX10_init 4 = .ok (.aload_n 0, 1) := by decide +kernel
theorem dX10_init_5 : decode cX10_init 5 = .ok (.iconst 0, 1) := by decide +kernel
theorem dX10_init_6 : decode cX10_init 6 = .ok (.newarray .byte, 2) := by decide +kernel
theorem dX10_init_8 : decode cX10_init 8 = .ok (.putfield 9, 3) := by decide +kernel
theorem dX10_init_11 : decode cX10_init 11 = .ok (.return_, 1) := by decide +kernel
theorem dX11_about_0 : decode cX11_about 0 = .ok (.iload_n 1, 1) := by decide +kernel
theorem dX11_about_1 : decode cX11_about 1 = .ok (.iconst 1, 1) := by decide +kernel
theorem dX11_about_2 : decode cX11_about 2 = .ok (.if_icmp .ne 8, 3) := by decide +kernel
theorem dX11_about_5 : decode cX11_about 5 = .ok (.aload_n 0, 1) := by decide +kernel
theorem dX11_about_6 : decode cX11_about 6 = .ok (.getfield 69, 3) := by decide +kernel
theorem dX11_about_9 : decode cX11_about 9 = .ok (.ireturn, 1) := by decide +kernel
theorem dX11_about_10 : decode cX11_about 10 = .ok (.iload_n 1, 1) := by decide +kernel
theorem dX11_about_11 : decode cX11_about 11 = .ok (.iconst 2, 1) := by decide +kernel
theorem dX11_about_12 : decode cX11_about 12 = .ok (.if_icmp .ne 8, 3) := by decide +kernel
theorem dX11_about_15 : decode cX11_about 15 = .ok (.aload_n 0, 1) := by decide +kernel
theorem dX11_about_16 : decode cX11_about 16 = .ok (.getfield 121, 3) := by decide +kernel
theorem dX11_about_19 : decode cX11_about 19 = .ok (.ireturn, 1) := by decide +kernel
theorem dX11_about_20 : decode cX11_about 20 = .ok (.aload_n 0, 1) := by decide +kernel
theorem dX11_about_21 : decode cX11_about 21 = .ok (.getfield 55, 3) := by decide +kernel
theorem dX11_about_24 : decode cX11_about 24 = .ok (.getfield 110, 3) := by decide +kernel
theorem dX11_about_27 : decode cX11_about 27 = .ok (.ifCond .ne 46, 3) := by decide +kernel
theorem dX11_about_30 : decode cX11_about 30 = .ok (.iload_n 1, 1) := by decide +kernel
theorem dX11_about_31 : decode cX11_about 31 = .ok (.ifCond .eq 26, 3) := by decide +kernel
theorem dX11_about_34 : decode cX11_about 34 = .ok (.iload_n 1, 1) := by decide +kernel
theorem dX11_about_35 : decode cX11_about 35 = .ok (.iconst 3, 1) := by decide +kernel
theorem dX11_about_36 : decode cX11_about 36 = .ok (.if_icmp .lt 9, 3) := by decide +kernel
theorem dX11_about_39 : decode cX11_about 39 = .ok (.iload_n 1, 1) := by decide +kernel
theorem dX11_about_40 : decode cX11_about 40 = .ok (.bipush 10, 2) := by decide +kernel
theorem dX11_about_42 : decode cX11_about 42 = .ok (.if_icmp .le 15, 3) := by decide +kernel
theorem dX11_about_45 : decode cX11_about 45 = .ok (.iload_n 1, 1) := by decide +kernel
theorem dX11_about_46 : decode cX11_about 46 = .ok (.bipush 13, 2) := by decide +kernel
theorem dX11_about_48 : decode cX11_about 48 = .ok (.if_icmp .eq 9, 3) := by decide +kernel
theorem dX11_about_51 : decode cX11_about 51 = .ok (.iload_n 1, 1) := by decide +kernel
theorem dX11_about_52 : decode cX11_about 52 = .ok (.bipush 14, 2) := by decide +kernel
theorem dX11_about_54 : decode cX11_about 54 = .ok (.if_icmp .ne 7, 3) := by decide +kernel
theorem dX11_about_57 : decode cX11_about 57 = .ok (.iconst 1, 1) := by decide +kernel
theorem dX11_about_58 : decode cX11_about 58 = .ok (.goto 4, 3) := by decide +kernel
theorem dX11_about_61 : decode cX11_about 61 = .ok (.iconst 0, 1) := by decide +kernel
theorem dX11_about_62 : decode cX11_about 62 = .ok (.istore_n 2, 1) := by decide +kernel
theorem dX11_about_63 : decode cX11_about 63 = .ok (.iload_n 2, 1) := by decide +kernel
theorem dX11_about_64 : decode cX11_about 64 = .ok (.ifCond .eq 7, 3) := by decide +kernel
theorem dX11_about_67 : decode cX11_about 67 = .ok (.iconst 0, 1) := by decide +kernel
theorem dX11_about_68 : decode cX11_about 68 = .ok (.goto 4, 3) := by decide +kernel
theorem dX11_about_71 : decode cX11_about 71 = .ok (.iconst (-1), 1) := by decide +kernel
theorem dX11_about_72 : decode cX11_about 72 = .ok (.ireturn, 1) := by decide +kernel
theorem dX11_clock_0 : decode cX11_clock 0 = .ok (.aload_n 0, 1) := by decide +kernel
theorem dX11_clock_1 : decode cX11_clock 1 = .ok (.getfield 55, 3) := by decide +kernel
theorem dX11_clock_4 : decode cX11_clock 4 = .ok (.getfield 110, 3) := by decide +kernel
theorem dX11_clock_7 : decode cX11_clock 7 = .ok (.ifCond .ne 9, 3) := by decide +kernel
theorem dX11_clock_10 : decode cX11_clock 10 = .ok (.ldc2_w 127, 3) := by decide +kernel
theorem dX11_clock_13 : decode cX11_clock 13 = .ok (.goto 10, 3) := by decide +kernel
theorem dX11_clock_23 : decode cX11_clock 23 = .ok (.lreturn, 1) := by decide +kernel
theorem dX11_end_0 : decode cX11_end 0 = .ok (.iload_n 1, 1) := by decide +kernel
theorem dX11_end_1 : decode cX11_end 1 = .ok (.ifCond .lt 11, 3) := by decide +kernel
theorem dX11_end_4 : decode cX11_end 4 = .ok (.iload_n 1, 1) := by decide +kernel
theorem dX11_end_5 : decode cX11_end 5 = .ok (.aload_n 0, 1) := by decide +kernel
theorem dX11_end_6 : decode cX11_end 6 = .ok (.getfield 69, 3) := by decide +kernel
theorem dX11_end_9 : decode cX11_end 9 = .ok (.if_icmp .le 5, 3) := by decide +kernel
theorem dX11_end_12 : decode cX11_end 12 = .ok (.iconst 0, 1) := by decide +kernel
theorem dX11_end_13 : decode cX11_end 13 = .ok (.ireturn, 1) := by decide +kernel
theorem dX11_end_14 : decode cX11_end 14 = .ok (.aload_n 0, 1) := by decide +kernel
theorem dX11_end_15 : decode cX11_end 15 = .ok (.iload_n 1, 1) := by decide +kernel
theorem dX11_end_16 : decode cX11_end 16 = .ok (.putfield 69, 3) := by decide +kernel
theorem dX11_end_19 : decode cX11_end 19 = .ok (.iconst 1, 1) := by decide +kernel
theorem dX11_end_20 : decode cX11_end 20 = .ok (.ireturn, 1) := by decide +kernel
theorem dX11_fault_0 : decode cX11_fault 0 = .ok (.iload_n 1, 1) := by decide +kernel
theorem dX11_fault_1 : decode cX11_fault 1 = .ok (.tableswitch 51 0 3 #[31, 36, 41, 46], 31) := by decide +kernel
theorem dX11_fault_32 : decode cX11_fault 32 = .ok (.aload_n 0, 1) := by decide +kernel
theorem dX11_fault_33 : decode cX11_fault 33 = .ok (.getfield 90, 3) := by decide +kernel
theorem dX11_fault_36 : decode cX11_fault 36 = .ok (.ireturn, 1) := by decide +kernel
theorem dX11_fault_37 : decode cX11_fault 37 = .ok (.aload_n 0, 1) := by decide +kernel
theorem dX11_fault_38 : decode cX11_fault 38 = .ok (.getfield 62, 3) := by decide +kernel
theorem dX11_fault_41 : decode cX11_fault 41 = .ok (.ireturn, 1) := by decide +kernel
theorem dX11_fault_42 : decode cX11_fault 42 = .ok (.aload_n 0, 1) := by decide +kernel
theorem dX11_fault_43 : decode cX11_fault 43 = .ok (.getfield 107, 3) := by decide +kernel
theorem dX11_fault_46 : decode cX11_fault 46 = .ok (.ireturn, 1) := by decide +kernel
theorem dX11_fault_47 : decode cX11_fault 47 = .ok (.aload_n 0, 1) := by decide +kernel
theorem dX11_fault_48 : decode cX11_fault 48 = .ok (.getfield 66, 3) := by decide +kernel
theorem dX11_fault_51 : decode cX11_fault 51 = .ok (.ireturn, 1) := by decide +kernel
theorem dX11_fault_52 : decode cX11_fault 52 = .ok (.iconst (-1), 1) := by decide +kernel
theorem dX11_fault_53 : decode cX11_fault 53 = .ok (.ireturn, 1) := by decide +kernel
theorem dX11_feed_0 : decode cX11_feed 0 = .ok (.aload_n 0, 1) := by decide +kernel
theorem dX11_feed_1 : decode cX11_feed 1 = .ok (.getfield 69, 3) := by decide +kernel
theorem dX11_feed_4 : decode cX11_feed 4 = .ok (.ldc 72, 2) := by decide +kernel
theorem dX11_feed_6 : decode cX11_feed 6 = .ok (.if_icmp .le 5, 3) := by decide +kernel
theorem dX11_feed_11 : decode cX11_feed 11 = .ok (.aload_n 0, 1) := by decide +kernel
theorem dX11_feed_12 : decode cX11_feed 12 = .ok (.getfield 10, 3) := by decide +kernel
theorem dX11_feed_15 : decode cX11_feed 15 = .ok (.aload_n 0, 1) := by decide +kernel
theorem dX11_feed_16 : decode cX11_feed 16 = .ok (.getfield 69, 3) := by decide +kernel
theorem dX11_feed_19 : decode cX11_feed 19 = .ok (.iload_n 1, 1) := by decide +kernel
theorem dX11_feed_20 : decode cX11_feed 20 = .ok (.invokestatic 73, 3) := by decide +kernel
theorem dX11_feed_23 : decode cX11_feed 23 = .ok (.aload_n 0, 1) := by decide +kernel
theorem dX11_feed_24 : decode cX11_feed 24 = .ok (.getfield 10, 3) := by decide +kernel
theorem dX11_feed_27 : decode cX11_feed 27 = .ok (.aload_n 0, 1) := by decide +kernel
theorem dX11_feed_28 : decode cX11_feed 28 = .ok (.getfield 69, 3) := by decide +kernel
theorem dX11_feed_31 : decode cX11_feed 31 = .ok (.iconst 4, 1) := by decide +kernel
theorem dX11_feed_32 : decode cX11_feed 32 = .ok (.iadd, 1) := by decide +kernel
theorem dX11_feed_33 : decode cX11_feed 33 = .ok (.iload_n 2, 1) := by decide +kernel
theorem dX11_feed_34 : decode cX11_feed 34 = .ok (.invokestatic 73, 3) := by decide +kernel
theorem dX11_feed_37 : decode cX11_feed 37 = .ok (.aload_n 0, 1) := by decide +kernel
theorem dX11_feed_38 : decode cX11_feed 38 = .ok (.getfield 10, 3) := by decide +kernel
theorem dX11_feed_41 : decode cX11_feed 41 = .ok (.aload_n 0, 1) := by decide +kernel
theorem dX11_feed_42 : decode cX11_feed 42 = .ok (.getfield 69, 3) := by decide +kernel
theorem dX11_feed_45 : decode cX11_feed 45 = .ok (.bipush 8, 2) := by decide +kernel
theorem dX11_feed_47 : decode cX11_feed 47 = .ok (.iadd, 1) := by decide +kernel
theorem dX11_feed_48 : decode cX11_feed 48 = .ok (.iload_n 3, 1) := by decide +kernel
theorem dX11_feed_49 : decode cX11_feed 49 = .ok (.invokestatic 73, 3) := by decide +kernel
theorem dX11_feed_52 : decode cX11_feed 52 = .ok (.aload_n 0, 1) := by decide +kernel
theorem dX11_feed_53 : decode cX11_feed 53 = .ok (.getfield 10, 3) := by decide +kernel
theorem dX11_feed_56 : decode cX11_feed 56 = .ok (.aload_n 0, 1) := by decide +kernel
theorem dX11_feed_57 : decode cX11_feed 57 = .ok (.getfield 69, 3) := by decide +kernel
theorem dX11_feed_60 : decode cX11_feed 60 = .ok (.bipush 12, 2) := by decide +kernel
theorem dX11_feed_62 : decode cX11_feed 62 = .ok (.iadd, 1) := by decide +kernel
theorem dX11_feed_63 : decode cX11_feed 63 = .ok (.iload 4, 2) := by decide +kernel
theorem dX11_feed_65 : decode cX11_feed 65 = .ok (.invokestatic 73, 3) := by decide +kernel
theorem dX11_feed_68 : decode cX11_feed 68 = .ok (.aload_n 0, 1) := by decide +kernel
theorem dX11_feed_69 : decode cX11_feed 69 = .ok (.getfield 10, 3) := by decide +kernel
theorem dX11_feed_72 : decode cX11_feed 72 = .ok (.aload_n 0, 1) := by decide +kernel
theorem dX11_feed_73 : decode cX11_feed 73 = .ok (.getfield 69, 3) := by decide +kernel
theorem dX11_feed_76 : decode cX11_feed 76 = .ok (.bipush 16, 2) := by decide +kernel
theorem dX11_feed_78 : decode cX11_feed 78 = .ok (.iadd, 1) := by decide +kernel
theorem dX11_feed_79 : decode cX11_feed 79 = .ok (.iload 5, 2) := by decide +kernel
theorem dX11_feed_81 : decode cX11_feed 81 = .ok (.invokestatic 73, 3) := by decide +kernel
theorem dX11_feed_84 : decode cX11_feed 84 = .ok (.aload_n 0, 1) := by decide +kernel
theorem dX11_feed_85 : decode cX11_feed 85 = .ok (.dup, 1) := by decide +kernel
theorem dX11_feed_86 : decode cX11_feed 86 = .ok (.getfield 69, 3) := by decide +kernel
theorem dX11_feed_89 : decode cX11_feed 89 = .ok (.bipush 20, 2) := by decide +kernel
theorem dX11_feed_91 : decode cX11_feed 91 = .ok (.iadd, 1) := by decide +kernel
theorem dX11_feed_92 : decode cX11_feed 92 = .ok (.putfield 69, 3) := by decide +kernel
theorem dX11_feed_95 : decode cX11_feed 95 = .ok (.aload_n 0, 1) := by decide +kernel
theorem dX11_feed_96 : decode cX11_feed 96 = .ok (.getfield 69, 3) := by decide +kernel
theorem dX11_feed_99 : decode cX11_feed 99 = .ok (.ireturn, 1) := by decide +kernel
theorem dX11_freeze_0 : decode cX11_freeze 0 = .ok (.aload_n 0, 1) := by decide +kernel
theorem dX11_freeze_1 : decode cX11_freeze 1 = .ok (.getfield 55, 3) := by decide +kernel
theorem dX11_freeze_4 : decode cX11_freeze 4 = .ok (.getfield 110, 3) := by decide +kernel
theorem dX11_freeze_7 : decode cX11_freeze 7 = .ok (.ifCond .eq 13, 3) := by decide +kernel
theorem dX11_freeze_20 : decode cX11_freeze 20 = .ok (.iconst (-1), 1) := by decide +kernel
theorem dX11_freeze_21 : decode cX11_freeze 21 = .ok (.ireturn, 1) := by decide +kernel
theorem dX11_image_0 : decode cX11_image 0 = .ok (.iload_n 1, 1) := by decide +kernel
theorem dX11_image_1 : decode cX11_image 1 = .ok (.ifCond .lt 11, 3) := by decide +kernel
theorem dX11_image_4 : decode cX11_image 4 = .ok (.iload_n 1, 1) := by decide +kernel
theorem dX11_image_5 : decode cX11_image 5 = .ok (.aload_n 0, 1) := by decide +kernel
theorem dX11_image_6 : decode cX11_image 6 = .ok (.getfield 121, 3) := by decide +kernel
theorem dX11_image_9 : decode cX11_image 9 = .ok (.if_icmp .lt 7, 3) := by decide +kernel
theorem dX11_image_12 : decode cX11_image 12 = .ok (.iconst (-1), 1) := by decide +kernel
theorem dX11_image_13 : decode cX11_image 13 = .ok (.goto 13, 3) := by decide +kernel
theorem dX11_image_26 : decode cX11_image 26 = .ok (.ireturn, 1) := by decide +kernel
theorem dX11_init_0 : decode cX11_init 0 = .ok (.aload_n 0, 1) := by decide +kernel
theorem dX11_init_1 : decode cX11_init 1 = .ok (.invokespecial 3, 3) := by decide +kernel
theorem dX11_init_4 : decode cX11_init 4 = .ok (.aload_n 0, 1) := by decide +kernel
theorem dX11_init_5 : decode cX11_init 5 = .ok (.ldc 9, 2) := by decide +kernel
theorem dX11_init_7 : decode cX11_init 7 = .ok (.newarray .byte, 2) := by decide +kernel
theorem dX11_init_9 : decode cX11_init 9 = .ok (.putfield 10, 3) := by decide +kernel
theorem dX11_init_12 : decode cX11_init 12 = .ok (.aload_n 0, 1) := by decide +kernel
theorem dX11_init_13 : decode cX11_init 13 = .ok (.ldc 9, 2) := by decide +kernel
theorem dX11_init_15 : decode cX11_init 15 = .ok (.newarray .byte, 2) := by decide +kernel
theorem dX11_init_17 : decode cX11_init 17 = .ok (.putfield 14, 3) := by decide +kernel
theorem dX11_init_20 : decode cX11_init 20 = .ok (.aload_n 0, 1) := by decide +kernel
theorem dX11_init_21 : decode cX11_init 21 = .ok (.new 17, 3) := by decide +kernel
theorem dX11_init_24 : decode cX11_init 24 = .ok (.dup, 1) := by decide +kernel
theorem dX11_init_25 : decode cX11_init 25 = .ok (.invokespecial 19, 3) := by decide +kernel
theorem dX11_init_28 : decode cX11_init 28 = .ok (.putfield 20, 3) := by decide +kernel
theorem dX11_init_31 : decode cX11_init 31 = .ok (.aload_n 0, 1) := by decide +kernel
theorem dX11_init_32 : decode cX11_init 32 = .ok (.new 24, 3) := by decide +kernel
theorem dX11_init_35 : decode cX11_init 35 = .ok (.dup, 1) := by decide +kernel
theorem dX11_init_36 : decode cX11_init 36 = .ok (.invokespecial 26, 3) := by decide +kernel
theorem dX11_init_39 : decode cX11_init 39 = .ok (.putfield 27, 3) := by decide +kernel
theorem dX11_init_42 : decode cX11_init 42 = .ok (.aload_n 0, 1) := by decide +kernel
theorem dX11_init_43 : decode cX11_init 43 = .ok (.new 31, 3) := by decide +kernel
theorem dX11_init_46 : decode cX11_init 46 = .ok (.dup, 1) := by decide +kernel
theorem dX11_init_47 : decode cX11_init 47 = .ok (.invokespecial 33, 3) := by decide +kernel
theorem dX11_init_50 : decode cX11_init 50 = .ok (.putfield 34, 3) := by decide +kernel
theorem dX11_init_53 : decode cX11_init 53 = .ok (.aload_n 0, 1) := by decide +kernel
theorem dX11_init_54 : decode cX11_init 54 = .ok (.new 38, 3) := by decide +kernel
theorem dX11_init_57 : decode cX11_init 57 = .ok (.dup, 1) := by decide +kernel
theorem dX11_init_58 : decode cX11_init 58 = .ok (.invokespecial 40, 3) := by decide +kernel
theorem dX11_init_61 : decode cX11_init 61 = .ok (.putfield 41, 3) := by decide +kernel
theorem dX11_init_64 : decode cX11_init 64 = .ok (.aload_n 0, 1) := by decide +kernel
theorem dX11_init_65 : decode cX11_init 65 = .ok (.new 45, 3) := by decide +kernel
theorem dX11_init_68 : decode cX11_init 68 = .ok (.dup, 1) := by decide +kernel
theorem dX11_init_69 : decode cX11_init 69 = .ok (.invokespecial 47, 3) := by decide +kernel
theorem dX11_init_72 : decode cX11_init 72 = .ok (.putfield 48, 3) := by decide +kernel
theorem dX11_init_75 : decode cX11_init 75 = .ok (.aload_n 0, 1) := by decide +kernel
theorem dX11_init_76 : decode cX11_init 76 = .ok (.new 52, 3) := by decide +kernel
theorem dX11_init_79 : decode cX11_init 79 = .ok (.dup, 1) := by decide +kernel
theorem dX11_init_80 : decode cX11_init 80 = .ok (.invokespecial 54, 3) := by decide +kernel
theorem dX11_init_83 : decode cX11_init 83 = .ok (.putfield 55, 3) := by decide +kernel
theorem dX11_init_86 : decode cX11_init 86 = .ok (.aload_n 0, 1) := by decide +kernel
theorem dX11_init_87 : decode cX11_init 87 = .ok (.new 52, 3) := by decide +kernel
theorem dX11_init_90 : decode cX11_init 90 = .ok (.dup, 1) := by decide +kernel
theorem dX11_init_91 : decode cX11_init 91 = .ok (.invokespecial 54, 3) := by decide +kernel
theorem dX11_init_94 : decode cX11_init 94 = .ok (.putfield 59, 3) := by decide +kernel
theorem dX11_init_97 : decode cX11_init 97 = .ok (.aload_n 0, 1) := by decide +kernel
theorem dX11_init_98 : decode cX11_init 98 = .ok (.iconst (-1), 1) := by decide +kernel
theorem dX11_init_99 : decode cX11_init 99 = .ok (.putfield 62, 3) := by decide +kernel
theorem dX11_init_102 : decode cX11_init 102 = .ok (.aload_n 0, 1) := by decide +kernel
theorem dX11_init_103 : decode cX11_init 103 = .ok (.iconst (-1), 1) := by decide +kernel
theorem dX11_init_104 : decode cX11_init 104 = .ok (.putfield 66, 3) := by decide +kernel
theorem dX11_init_107 : decode cX11_init 107 = .ok (.return_, 1) := by decide +kernel
theorem dX11_klass_0 : decode cX11_klass 0 = .ok (.aload_n 0, 1) := by decide +kernel
theorem dX11_klass_1 : decode cX11_klass 1 = .ok (.getfield 55, 3) := by decide +kernel
theorem dX11_klass_4 : decode cX11_klass 4 = .ok (.getfield 110, 3) := by decide +kernel
theorem dX11_klass_7 : decode cX11_klass 7 = .ok (.ifCond .ne 5, 3) := by decide +kernel
theorem dX11_klass_10 : decode cX11_klass 10 = .ok (.iconst (-1), 1) := by decide +kernel
theorem dX11_klass_11 : decode cX11_klass 11 = .ok (.ireturn, 1) := by decide +kernel
theorem dX11_load_0 : decode cX11_load 0 = .ok (.aload_n 0, 1) := by decide +kernel
theorem dX11_load_1 : decode cX11_load 1 = .ok (.getfield 69, 3) := by decide +kernel
theorem dX11_load_4 : decode cX11_load 4 = .ok (.istore_n 2, 1) := by decide +kernel
theorem dX11_load_5 : decode cX11_load 5 = .ok (.aload_n 0, 1) := by decide +kernel
theorem dX11_load_6 : decode cX11_load 6 = .ok (.iconst 0, 1) := by decide +kernel
theorem dX11_load_7 : decode cX11_load 7 = .ok (.putfield 69, 3) := by decide +kernel
theorem dX11_load_10 : decode cX11_load 10 = .ok (.iload_n 1, 1) := by decide +kernel
theorem dX11_load_11 : decode cX11_load 11 = .ok (.iconst 1, 1) := by decide +kernel
theorem dX11_load_12 : decode cX11_load 12 = .ok (.if_icmp .lt 9, 3) := by decide +kernel
theorem dX11_load_15 : decode cX11_load 15 = .ok (.iload_n 1, 1) := by decide +kernel
theorem dX11_load_16 : decode cX11_load 16 = .ok (.bipush 50, 2) := by decide +kernel
theorem dX11_load_18 : decode cX11_load 18 = .ok (.if_icmp .le 5, 3) := by decide +kernel
theorem dX11_load_21 : decode cX11_load 21 = .ok (.iconst (-1), 1) := by decide +kernel
theorem dX11_load_22 : decode cX11_load 22 = .ok (.ireturn, 1) := by decide +kernel
theorem dX11_load_23 : decode cX11_load 23 = .ok (.aload_n 0, 1) := by decide +kernel
theorem dX11_load_24 : decode cX11_load 24 = .ok (.getfield 59, 3) := by decide +kernel
theorem dX11_load_27 : decode cX11_load 27 = .ok (.getfield 77, 3) := by decide +kernel
theorem dX11_load_30 : decode cX11_load 30 = .ok (.aload_n 0, 1) := by decide +kernel
theorem dX11_load_31 : decode cX11_load 31 = .ok (.getfield 10, 3) := by decide +kernel
theorem dX11_load_34 : decode cX11_load 34 = .ok (.iconst 0, 1) := by decide +kernel
theorem dX11_load_35 : decode cX11_load 35 = .ok (.iload_n 2, 1) := by decide +kernel
theorem dX11_load_36 : decode cX11_load 36 = .ok (.invokevirtual 81, 3) := by decide +kernel
theorem dX11_load_39 : decode cX11_load 39 = .ok (.aload_n 0, 1) := by decide +kernel
theorem dX11_load_40 : decode cX11_load 40 = .ok (.aload_n 0, 1) := by decide +kernel
theorem dX11_load_41 : decode cX11_load 41 = .ok (.getfield 20, 3) := by decide +kernel
theorem dX11_load_44 : decode cX11_load 44 = .ok (.aload_n 0, 1) := by decide +kernel
theorem dX11_load_45 : decode cX11_load 45 = .ok (.getfield 59, 3) := by decide +kernel
theorem dX11_load_48 : decode cX11_load 48 = .ok (.getfield 77, 3) := by decide +kernel
theorem dX11_load_51 : decode cX11_load 51 = .ok (.invokevirtual 86, 3) := by decide +kernel
theorem dX11_load_54 : decode cX11_load 54 = .ok (.putfield 90, 3) := by decide +kernel
theorem dX11_load_57 : decode cX11_load 57 = .ok (.aload_n 0, 1) := by decide +kernel
theorem dX11_load_58 : decode cX11_load 58 = .ok (.aload_n 0, 1) := by decide +kernel
theorem dX11_load_59 : decode cX11_load 59 = .ok (.getfield 20, 3) := by decide +kernel
theorem dX11_load_62 : decode cX11_load 62 = .ok (.aload_n 0, 1) := by decide +kernel
theorem dX11_load_63 : decode cX11_load 63 = .ok (.getfield 90, 3) := by decide +kernel
theorem dX11_load_66 : decode cX11_load 66 = .ok (.invokevirtual 93, 3) := by decide +kernel
theorem dX11_load_69 : decode cX11_load 69 = .ok (.putfield 62, 3) := by decide +kernel
theorem dX11_load_72 : decode cX11_load 72 = .ok (.aload_n 0, 1) := by decide +kernel
theorem dX11_load_73 : decode cX11_load 73 = .ok (.getfield 90, 3) := by decide +kernel
theorem dX11_load_76 : decode cX11_load 76 = .ok (.ifCond .eq 5, 3) := by decide +kernel
theorem dX11_load_79 : decode cX11_load 79 = .ok (.iconst (-1), 1) := by decide +kernel
theorem dX11_load_80 : decode cX11_load 80 = .ok (.ireturn, 1) := by decide +kernel
theorem dX11_method_0 : decode cX11_method 0 = .ok (.aload_n 0, 1) := by decide +kernel
theorem dX11_method_1 : decode cX11_method 1 = .ok (.getfield 55, 3) := by decide +kernel
theorem dX11_method_4 : decode cX11_method 4 = .ok (.getfield 110, 3) := by decide +kernel
theorem dX11_method_7 : decode cX11_method 7 = .ok (.ifCond .eq 21, 3) := by decide +kernel
theorem dX11_method_28 : decode cX11_method 28 = .ok (.iconst (-1), 1) := by decide +kernel
theorem dX11_method_29 : decode cX11_method 29 = .ok (.ireturn, 1) := by decide +kernel
theorem dX11_out_0 : decode cX11_out 0 = .ok (.iload_n 1, 1) := by decide +kernel
theorem dX11_out_1 : decode cX11_out 1 = .ok (.ifCond .lt 21, 3) := by decide +kernel
theorem dX11_out_4 : decode cX11_out 4 = .ok (.iload_n 1, 1) := by decide +kernel
theorem dX11_out_5 : decode cX11_out 5 = .ok (.aload_n 0, 1) := by decide +kernel
theorem dX11_out_6 : decode cX11_out 6 = .ok (.getfield 55, 3) := by decide +kernel
theorem dX11_out_9 : decode cX11_out 9 = .ok (.getfield 133, 3) := by decide +kernel
theorem dX11_out_12 : decode cX11_out 12 = .ok (.if_icmp .ge 10, 3) := by decide +kernel
theorem dX11_out_22 : decode cX11_out 22 = .ok (.iconst (-1), 1) := by decide +kernel
theorem dX11_out_23 : decode cX11_out 23 = .ok (.ireturn, 1) := by decide +kernel
theorem dX11_patch_0 : decode cX11_patch 0 = .ok (.iload_n 1, 1) := by decide +kernel
theorem dX11_patch_1 : decode cX11_patch 1 = .ok (.ifCond .lt 11, 3) := by decide +kernel
theorem dX11_patch_4 : decode cX11_patch 4 = .ok (.iload_n 1, 1) := by decide +kernel
theorem dX11_patch_5 : decode cX11_patch 5 = .ok (.aload_n 0, 1) := by decide +kernel
theorem dX11_patch_6 : decode cX11_patch 6 = .ok (.getfield 69, 3) := by decide +kernel
theorem dX11_patch_9 : decode cX11_patch 9 = .ok (.if_icmp .lt 5, 3) := by decide +kernel
theorem dX11_patch_12 : decode cX11_patch 12 = .ok (.iconst 0, 1) := by decide +kernel
theorem dX11_patch_13 : decode cX11_patch 13 = .ok (.ireturn, 1) := by decide +kernel
theorem dX11_refuse_0 : decode cX11_refuse 0 = .ok (.aload_n 0, 1) := by decide +kernel
theorem dX11_refuse_1 : decode cX11_refuse 1 = .ok (.iload_n 1, 1) := by decide +kernel
theorem dX11_refuse_2 : decode cX11_refuse 2 = .ok (.putfield 107, 3) := by decide +kernel
theorem dX11_refuse_5 : decode cX11_refuse 5 = .ok (.aload_n 0, 1) := by decide +kernel
theorem dX11_refuse_6 : decode cX11_refuse 6 = .ok (.iload_n 2, 1) := by decide +kernel
theorem dX11_refuse_7 : decode cX11_refuse 7 = .ok (.putfield 66, 3) := by decide +kernel
theorem dX11_refuse_10 : decode cX11_refuse 10 = .ok (.iload_n 1, 1) := by decide +kernel
theorem dX11_refuse_11 : decode cX11_refuse 11 = .ok (.ireturn, 1) := by decide +kernel
theorem dX11_restore_0 : decode cX11_restore 0 = .ok (.lload_n 1, 1) := by decide +kernel
theorem dX11_restore_1 : decode cX11_restore 1 = .ok (.lconst 0, 1) := by decide +kernel
theorem dX11_restore_2 : decode cX11_restore 2 = .ok (.lcmp, 1) := by decide +kernel
theorem dX11_restore_3 : decode cX11_restore 3 = .ok (.ifCond .lt 11, 3) := by decide +kernel
theorem dX11_restore_6 : decode cX11_restore 6 = .ok (.lload_n 1, 1) := by decide +kernel
theorem dX11_restore_7 : decode cX11_restore 7 = .ok (.ldc2_w 152, 3) := by decide +kernel
theorem dX11_restore_10 : decode cX11_restore 10 = .ok (.lcmp, 1) := by decide +kernel
theorem dX11_restore_11 : decode cX11_restore 11 = .ok (.ifCond .le 6, 3) := by decide +kernel
theorem dX11_restore_14 : decode cX11_restore 14 = .ok (.bipush 7, 2) := by decide +kernel
theorem dX11_restore_16 : decode cX11_restore 16 = .ok (.ireturn, 1) := by decide +kernel
theorem dX11_restore_17 : decode cX11_restore 17 = .ok (.aload_n 0, 1) := by decide +kernel
theorem dX11_restore_18 : decode cX11_restore 18 = .ok (.getfield 41, 3) := by decide +kernel
theorem dX11_restore_21 : decode cX11_restore 21 = .ok (.aload_n 0, 1) := by decide +kernel
theorem dX11_restore_22 : decode cX11_restore 22 = .ok (.getfield 10, 3) := by decide +kernel
theorem dX11_restore_25 : decode cX11_restore 25 = .ok (.aload_n 0, 1) := by decide +kernel
theorem dX11_restore_26 : decode cX11_restore 26 = .ok (.getfield 69, 3) := by decide +kernel
theorem dX11_restore_29 : decode cX11_restore 29 = .ok (.invokevirtual 154, 3) := by decide +kernel
theorem dX11_restore_32 : decode cX11_restore 32 = .ok (.istore 4, 2) := by decide +kernel
theorem dX11_restore_34 : decode cX11_restore 34 = .ok (.iload 4, 2) := by decide +kernel
theorem dX11_restore_36 : decode cX11_restore 36 = .ok (.iconst (-1), 1) := by decide +kernel
theorem dX11_restore_37 : decode cX11_restore 37 = .ok (.if_icmp .eq 11, 3) := by decide +kernel
theorem dX11_restore_40 : decode cX11_restore 40 = .ok (.aload_n 0, 1) := by decide +kernel
theorem dX11_restore_41 : decode cX11_restore 41 = .ok (.iconst 1, 1) := by decide +kernel
theorem dX11_restore_42 : decode cX11_restore 42 = .ok (.iload 4, 2) := by decide +kernel
theorem dX11_restore_44 : decode cX11_restore 44 = .ok (.invokevirtual 157, 3) := by decide +kernel
theorem dX11_restore_47 : decode cX11_restore 47 = .ok (.ireturn, 1) := by decide +kernel
theorem dX11_run_0 : decode cX11_run 0 = .ok (.iload_n 1, 1) := by decide +kernel
theorem dX11_run_1 : decode cX11_run 1 = .ok (.ifCond .lt 10, 3) := by decide +kernel
theorem dX11_run_4 : decode cX11_run 4 = .ok (.iload_n 1, 1) := by decide +kernel
theorem dX11_run_5 : decode cX11_run 5 = .ok (.sipush 20000, 3) := by decide +kernel
theorem dX11_run_8 : decode cX11_run 8 = .ok (.if_icmp .le 5, 3) := by decide +kernel
theorem dX11_run_11 : decode cX11_run 11 = .ok (.iconst (-1), 1) := by decide +kernel
theorem dX11_run_12 : decode cX11_run 12 = .ok (.ireturn, 1) := by decide +kernel
theorem dX11_run_13 : decode cX11_run 13 = .ok (.iconst 0, 1) := by decide +kernel
theorem dX11_run_14 : decode cX11_run 14 = .ok (.istore_n 2, 1) := by decide +kernel
theorem dX11_run_15 : decode cX11_run 15 = .ok (.iload_n 2, 1) := by decide +kernel
theorem dX11_run_16 : decode cX11_run 16 = .ok (.iload_n 1, 1) := by decide +kernel
theorem dX11_run_17 : decode cX11_run 17 = .ok (.if_icmp .ge 34, 3) := by decide +kernel
theorem dX11_run_20 : decode cX11_run 20 = .ok (.aload_n 0, 1) := by decide +kernel
theorem dX11_run_21 : decode cX11_run 21 = .ok (.getfield 55, 3) := by decide +kernel
theorem dX11_run_24 : decode cX11_run 24 = .ok (.getfield 110, 3) := by decide +kernel
theorem dX11_run_27 : decode cX11_run 27 = .ok (.iconst 1, 1) := by decide +kernel
theorem dX11_run_28 : decode cX11_run 28 = .ok (.if_icmp .ne 23, 3) := by decide +kernel
theorem dX11_run_51 : decode cX11_run 51 = .ok (.iload_n 2, 1) := by decide +kernel
theorem dX11_run_52 : decode cX11_run 52 = .ok (.ifCond .le 36, 3) := by decide +kernel
theorem dX11_run_88 : decode cX11_run 88 = .ok (.iload_n 2, 1) := by decide +kernel
theorem dX11_run_89 : decode cX11_run 89 = .ok (.ireturn, 1) := by decide +kernel
theorem dX11_seal_0 : decode cX11_seal 0 = .ok (.aload_n 0, 1) := by decide +kernel
theorem dX11_seal_1 : decode cX11_seal 1 = .ok (.getfield 69, 3) := by decide +kernel
theorem dX11_seal_4 : decode cX11_seal 4 = .ok (.iconst 4, 1) := by decide +kernel
theorem dX11_seal_5 : decode cX11_seal 5 = .ok (.if_icmp .ge 5, 3) := by decide +kernel
theorem dX11_seal_8 : decode cX11_seal 8 = .ok (.iconst 0, 1) := by decide +kernel
theorem dX11_seal_9 : decode cX11_seal 9 = .ok (.ireturn, 1) := by decide +kernel
theorem dX11_setFour_0 : decode cX11_setFour 0 = .ok (.aload_n 0, 1) := by decide +kernel
theorem dX11_setFour_1 : decode cX11_setFour 1 = .ok (.iload_n 1, 1) := by decide +kernel
theorem dX11_setFour_2 : decode cX11_setFour 2 = .ok (.iload_n 2, 1) := by decide +kernel
theorem dX11_setFour_3 : decode cX11_setFour 3 = .ok (.bipush 24, 2) := by decide +kernel
theorem dX11_setFour_5 : decode cX11_setFour 5 = .ok (.iushr, 1) := by decide +kernel
theorem dX11_setFour_6 : decode cX11_setFour 6 = .ok (.i2b, 1) := by decide +kernel
theorem dX11_setFour_7 : decode cX11_setFour 7 = .ok (.bastore, 1) := by decide +kernel
theorem dX11_setFour_8 : decode cX11_setFour 8 = .ok (.aload_n 0, 1) := by decide +kernel
theorem dX11_setFour_9 : decode cX11_setFour 9 = .ok (.iload_n 1, 1) := by decide +kernel
theorem dX11_setFour_10 : decode cX11_setFour 10 = .ok (.iconst 1, 1) := by decide +kernel
theorem dX11_setFour_11 : decode cX11_setFour 11 = .ok (.iadd, 1) := by decide +kernel
theorem dX11_setFour_12 : decode cX11_setFour 12 = .ok (.iload_n 2, 1) := by decide +kernel
theorem dX11_setFour_13 : decode cX11_setFour 13 = .ok (.bipush 16, 2) := by decide +kernel
theorem dX11_setFour_15 : decode cX11_setFour 15 = .ok (.iushr, 1) := by decide +kernel
theorem dX11_setFour_16 : decode cX11_setFour 16 = .ok (.i2b, 1) := by decide +kernel
theorem dX11_setFour_17 : decode cX11_setFour 17 = .ok (.bastore, 1) := by decide +kernel
theorem dX11_setFour_18 : decode cX11_setFour 18 = .ok (.aload_n 0, 1) := by decide +kernel
theorem dX11_setFour_19 : decode cX11_setFour 19 = .ok (.iload_n 1, 1) := by decide +kernel
theorem dX11_setFour_20 : decode cX11_setFour 20 = .ok (.iconst 2, 1) := by decide +kernel
theorem dX11_setFour_21 : decode cX11_setFour 21 = .ok (.iadd, 1) := by decide +kernel
theorem dX11_setFour_22 : decode cX11_setFour 22 = .ok (.iload_n 2, 1) := by decide +kernel
theorem dX11_setFour_23 : decode cX11_setFour 23 = .ok (.bipush 8, 2) := by decide +kernel
theorem dX11_setFour_25 : decode cX11_setFour 25 = .ok (.iushr, 1) := by decide +kernel
theorem dX11_setFour_26 : decode cX11_setFour 26 = .ok (.i2b, 1) := by decide +kernel
theorem dX11_setFour_27 : decode cX11_setFour 27 = .ok (.bastore, 1) := by decide +kernel
theorem dX11_setFour_28 : decode cX11_setFour 28 = .ok (.aload_n 0, 1) := by decide +kernel
theorem dX11_setFour_29 : decode cX11_setFour 29 = .ok (.iload_n 1, 1) := by decide +kernel
theorem dX11_setFour_30 : decode cX11_setFour 30 = .ok (.iconst 3, 1) := by decide +kernel
theorem dX11_setFour_31 : decode cX11_setFour 31 = .ok (.iadd, 1) := by decide +kernel
theorem dX11_setFour_32 : decode cX11_setFour 32 = .ok (.iload_n 2, 1) := by decide +kernel
theorem dX11_setFour_33 : decode cX11_setFour 33 = .ok (.i2b, 1) := by decide +kernel
theorem dX11_setFour_34 : decode cX11_setFour 34 = .ok (.bastore, 1) := by decide +kernel
theorem dX11_setFour_35 : decode cX11_setFour 35 = .ok (.return_, 1) := by decide +kernel
theorem dX11_take_0 : decode cX11_take 0 = .ok (.aload_n 0, 1) := by decide +kernel
theorem dX11_take_1 : decode cX11_take 1 = .ok (.getfield 121, 3) := by decide +kernel
theorem dX11_take_4 : decode cX11_take 4 = .ok (.ifCond .ne 5, 3) := by decide +kernel
theorem dX11_take_7 : decode cX11_take 7 = .ok (.iconst (-1), 1) := by decide +kernel
theorem dX11_take_8 : decode cX11_take 8 = .ok (.ireturn, 1) := by decide +kernel
theorem dX11_thaw_0 : decode cX11_thaw 0 = .ok (.aload_n 0, 1) := by decide +kernel
theorem dX11_thaw_1 : decode cX11_thaw 1 = .ok (.getfield 55, 3) := by decide +kernel
theorem dX11_thaw_4 : decode cX11_thaw 4 = .ok (.getfield 110, 3) := by decide +kernel
theorem dX11_thaw_7 : decode cX11_thaw 7 = .ok (.iconst 2, 1) := by decide +kernel
theorem dX11_thaw_8 : decode cX11_thaw 8 = .ok (.if_icmp .eq 5, 3) := by decide +kernel
theorem dX11_thaw_11 : decode cX11_thaw 11 = .ok (.iconst 0, 1) := by decide +kernel
theorem dX11_thaw_12 : decode cX11_thaw 12 = .ok (.ireturn, 1) := by decide +kernel
theorem dX11_thread_0 : decode cX11_thread 0 = .ok (.aload_n 0, 1) := by decide +kernel
theorem dX11_thread_1 : decode cX11_thread 1 = .ok (.getfield 55, 3) := by decide +kernel
theorem dX11_thread_4 : decode cX11_thread 4 = .ok (.getfield 110, 3) := by decide +kernel
theorem dX11_thread_7 : decode cX11_thread 7 = .ok (.ifCond .eq 21, 3) := by decide +kernel
theorem dX11_thread_28 : decode cX11_thread 28 = .ok (.iconst (-1), 1) := by decide +kernel
theorem dX11_thread_29 : decode cX11_thread 29 = .ok (.ireturn, 1) := by decide +kernel
theorem dX12_about_0 : decode cX12_about 0 = .ok (.iload_n 1, 1) := by decide +kernel
theorem dX12_about_1 : decode cX12_about 1 = .ok (.tableswitch 114 0 12 #[67, 72, 77, 114, 114, 114, 114, 114, 114, 114, 114, 82, 98], 67) := by decide +kernel
theorem dX12_about_68 : decode cX12_about 68 = .ok (.aload_n 0, 1) := by decide +kernel
theorem dX12_about_69 : decode cX12_about 69 = .ok (.getfield 566, 3) := by decide +kernel
theorem dX12_about_72 : decode cX12_about 72 = .ok (.ireturn, 1) := by decide +kernel
theorem dX12_about_73 : decode cX12_about 73 = .ok (.aload_n 0, 1) := by decide +kernel
theorem dX12_about_74 : decode cX12_about 74 = .ok (.getfield 1007, 3) := by decide +kernel
theorem dX12_about_77 : decode cX12_about 77 = .ok (.ireturn, 1) := by decide +kernel
theorem dX12_about_78 : decode cX12_about 78 = .ok (.aload_n 0, 1) := by decide +kernel
theorem dX12_about_79 : decode cX12_about 79 = .ok (.getfield 978, 3) := by decide +kernel
theorem dX12_about_82 : decode cX12_about 82 = .ok (.ireturn, 1) := by decide +kernel
theorem dX12_about_83 : decode cX12_about 83 = .ok (.aload_n 0, 1) := by decide +kernel
theorem dX12_about_84 : decode cX12_about 84 = .ok (.getfield 566, 3) := by decide +kernel
theorem dX12_about_87 : decode cX12_about 87 = .ok (.ifCond .ne 7, 3) := by decide +kernel
theorem dX12_about_90 : decode cX12_about 90 = .ok (.iconst (-1), 1) := by decide +kernel
theorem dX12_about_91 : decode cX12_about 91 = .ok (.goto 7, 3) := by decide +kernel
theorem dX12_about_98 : decode cX12_about 98 = .ok (.ireturn, 1) := by decide +kernel
theorem dX12_about_99 : decode cX12_about 99 = .ok (.aload_n 0, 1) := by decide +kernel
theorem dX12_about_100 : decode cX12_about 100 = .ok (.getfield 566, 3) := by decide +kernel
theorem dX12_about_103 : decode cX12_about 103 = .ok (.ifCond .ne 7, 3) := by decide +kernel
theorem dX12_about_106 : decode cX12_about 106 = .ok (.iconst (-1), 1) := by decide +kernel
theorem dX12_about_107 : decode cX12_about 107 = .ok (.goto 7, 3) := by decide +kernel
theorem dX12_about_114 : decode cX12_about 114 = .ok (.ireturn, 1) := by decide +kernel
theorem dX12_about_115 : decode cX12_about 115 = .ok (.iload_n 1, 1) := by decide +kernel
theorem dX12_about_116 : decode cX12_about 116 = .ok (.ifCond .lt 9, 3) := by decide +kernel
theorem dX12_about_119 : decode cX12_about 119 = .ok (.iload_n 1, 1) := by decide +kernel
theorem dX12_about_120 : decode cX12_about 120 = .ok (.bipush 14, 2) := by decide +kernel
theorem dX12_about_122 : decode cX12_about 122 = .ok (.if_icmp .le 5, 3) := by decide +kernel
theorem dX12_about_125 : decode cX12_about 125 = .ok (.iconst (-1), 1) := by decide +kernel
theorem dX12_about_126 : decode cX12_about 126 = .ok (.ireturn, 1) := by decide +kernel
theorem dX12_about_127 : decode cX12_about 127 = .ok (.aload_n 0, 1) := by decide +kernel
theorem dX12_about_128 : decode cX12_about 128 = .ok (.getfield 566, 3) := by decide +kernel
theorem dX12_about_131 : decode cX12_about 131 = .ok (.ifCond .ne 5, 3) := by decide +kernel
theorem dX12_about_134 : decode cX12_about 134 = .ok (.iconst 0, 1) := by decide +kernel
theorem dX12_about_135 : decode cX12_about 135 = .ok (.ireturn, 1) := by decide +kernel
theorem dX12_again_0 : decode cX12_again 0 = .ok (.aload_n 0, 1) := by decide +kernel
theorem dX12_again_1 : decode cX12_again 1 = .ok (.getfield 1159, 3) := by decide +kernel
theorem dX12_again_4 : decode cX12_again 4 = .ok (.ifCond .ge 4, 3) := by decide +kernel
theorem dX12_again_7 : decode cX12_again 7 = .ok (.return_, 1) := by decide +kernel
theorem dX12_bad_0 : decode cX12_bad 0 = .ok (.aload_n 0, 1) := by decide +kernel
theorem dX12_bad_1 : decode cX12_bad 1 = .ok (.invokevirtual 104, 3) := by decide +kernel
theorem dX12_bad_4 : decode cX12_bad 4 = .ok (.ifCond .eq 17, 3) := by decide +kernel
theorem dX12_bad_7 : decode cX12_bad 7 = .ok (.aload_n 0, 1) := by decide +kernel
theorem dX12_bad_8 : decode cX12_bad 8 = .ok (.iconst 1, 1) := by decide +kernel
theorem dX12_bad_9 : decode cX12_bad 9 = .ok (.aload_n 0, 1) := by decide +kernel
theorem dX12_bad_10 : decode cX12_bad 10 = .ok (.getfield 11, 3) := by decide +kernel
theorem dX12_bad_13 : decode cX12_bad 13 = .ok (.aload_n 0, 1) := by decide +kernel
theorem dX12_bad_14 : decode cX12_bad 14 = .ok (.getfield 101, 3) := by decide +kernel
theorem dX12_bad_17 : decode cX12_bad 17 = .ok (.iaload, 1) := by decide +kernel
theorem dX12_bad_18 : decode cX12_bad 18 = .ok (.invokevirtual 14, 3) := by decide +kernel
theorem dX12_bad_21 : decode cX12_bad 21 = .ok (.return_, 1) := by decide +kernel
theorem dX12_classHead_0 : decode cX12_classHead 0 = .ok (.aload_n 0, 1) := by decide +kernel
theorem dX12_classHead_1 : decode cX12_classHead 1 = .ok (.getfield 155, 3) := by decide +kernel
theorem dX12_classHead_4 : decode cX12_classHead 4 = .ok (.aload_n 0, 1) := by decide +kernel
theorem dX12_classHead_5 : decode cX12_classHead 5 = .ok (.getfield 131, 3) := by decide +kernel
theorem dX12_classHead_8 : decode cX12_classHead 8 = .ok (.aload_n 0, 1) := by decide +kernel
theorem dX12_classHead_9 : decode cX12_classHead 9 = .ok (.bipush 7, 2) := by decide +kernel
theorem dX12_classHead_11 : decode cX12_classHead 11 = .ok (.invokevirtual 158, 3) := by decide +kernel
theorem dX12_classHead_14 : decode cX12_classHead 14 = .ok (.ifCond .eq 7, 3) := by decide +kernel
theorem dX12_classHead_21 : decode cX12_classHead 21 = .ok (.iconst 0, 1) := by decide +kernel
theorem dX12_classHead_22 : decode cX12_classHead 22 = .ok (.iastore, 1) := by decide +kernel
theorem dX12_classHead_23 : decode cX12_classHead 23 = .ok (.aload_n 0, 1) := by decide +kernel
theorem dX12_classHead_24 : decode cX12_classHead 24 = .ok (.getfield 155, 3) := by decide +kernel
theorem dX12_classHead_27 : decode cX12_classHead 27 = .ok (.aload_n 0, 1) := by decide +kernel
theorem dX12_classHead_28 : decode cX12_classHead 28 = .ok (.getfield 131, 3) := by decide +kernel
theorem dX12_classHead_31 : decode cX12_classHead 31 = .ok (.iaload, 1) := by decide +kernel
theorem dX12_classHead_32 : decode cX12_classHead 32 = .ok (.iconst 1, 1) := by decide +kernel
theorem dX12_classHead_33 : decode cX12_classHead 33 = .ok (.if_icmp .ne 7, 3) := by decide +kernel
theorem dX12_classHead_40 : decode cX12_classHead 40 = .ok (.aload_n 0, 1) := by decide +kernel
theorem dX12_classHead_41 : decode cX12_classHead 41 = .ok (.invokevirtual 104, 3) := by decide +kernel
theorem dX12_classHead_44 : decode cX12_classHead 44 = .ok (.ifCond .eq 15, 3) := by decide +kernel
theorem dX12_classHead_47 : decode cX12_classHead 47 = .ok (.aload_n 0, 1) := by decide +kernel
theorem dX12_classHead_48 : decode cX12_classHead 48 = .ok (.iconst 1, 1) := by decide +kernel
theorem dX12_classHead_49 : decode cX12_classHead 49 = .ok (.invokevirtual 158, 3) := by decide +kernel
theorem dX12_classHead_52 : decode cX12_classHead 52 = .ok (.ifCond .ne 7, 3) := by decide +kernel
theorem dX12_classHead_55 : decode cX12_classHead 55 = .ok (.aload_n 0, 1) := by decide +kernel
theorem dX12_classHead_56 : decode cX12_classHead 56 = .ok (.invokevirtual 111, 3) := by decide +kernel
theorem dX12_classHead_59 : decode cX12_classHead 59 = .ok (.aload_n 0, 1) := by decide +kernel
theorem dX12_classHead_60 : decode cX12_classHead 60 = .ok (.invokevirtual 115, 3) := by decide +kernel
theorem dX12_classHead_63 : decode cX12_classHead 63 = .ok (.aload_n 0, 1) := by decide +kernel
theorem dX12_classHead_64 : decode cX12_classHead 64 = .ok (.getfield 161, 3) := by decide +kernel
theorem dX12_classHead_67 : decode cX12_classHead 67 = .ok (.aload_n 0, 1) := by decide +kernel
theorem dX12_classHead_68 : decode cX12_classHead 68 = .ok (.getfield 131, 3) := by decide +kernel
theorem dX12_classHead_71 : decode cX12_classHead 71 = .ok (.aload_n 0, 1) := by decide +kernel
theorem dX12_classHead_72 : decode cX12_classHead 72 = .ok (.invokevirtual 164, 3) := by decide +kernel
theorem dX12_classHead_75 : decode cX12_classHead 75 = .ok (.iastore, 1) := by decide +kernel
theorem dX12_classHead_76 : decode cX12_classHead 76 = .ok (.aload_n 0, 1) := by decide +kernel
theorem dX12_classHead_77 : decode cX12_classHead 77 = .ok (.dup, 1) := by decide +kernel
theorem dX12_classHead_78 : decode cX12_classHead 78 = .ok (.getfield 131, 3) := by decide +kernel
theorem dX12_classHead_81 : decode cX12_classHead 81 = .ok (.iconst 1, 1) := by decide +kernel
theorem dX12_classHead_82 : decode cX12_classHead 82 = .ok (.iadd, 1) := by decide +kernel
theorem dX12_classHead_83 : decode cX12_classHead 83 = .ok (.putfield 131, 3) := by decide +kernel
theorem dX12_classHead_86 : decode cX12_classHead 86 = .ok (.aload_n 0, 1) := by decide +kernel
theorem dX12_classHead_87 : decode cX12_classHead 87 = .ok (.bipush 123, 2) := by decide +kernel
theorem dX12_classHead_89 : decode cX12_classHead 89 = .ok (.invokevirtual 167, 3) := by decide +kernel
theorem dX12_classHead_92 : decode cX12_classHead 92 = .ok (.return_, 1) := by decide +kernel
theorem dX12_clock_0 : decode cX12_clock 0 = .ok (.aload_n 0, 1) := by decide +kernel
theorem dX12_clock_1 : decode cX12_clock 1 = .ok (.getfield 566, 3) := by decide +kernel
theorem dX12_clock_4 : decode cX12_clock 4 = .ok (.ifCond .ne 9, 3) := by decide +kernel
theorem dX12_clock_7 : decode cX12_clock 7 = .ok (.ldc2_w 774, 3) := by decide +kernel
theorem dX12_clock_10 : decode cX12_clock 10 = .ok (.goto 7, 3) := by decide +kernel
theorem dX12_clock_17 : decode cX12_clock 17 = .ok (.lreturn, 1) := by decide +kernel
theorem dX12_close_0 : decode cX12_close 0 = .ok (.aload_n 0, 1) := by decide +kernel
theorem dX12_close_1 : decode cX12_close 1 = .ok (.dup, 1) := by decide +kernel
theorem dX12_close_2 : decode cX12_close 2 = .ok (.getfield 118, 3) := by decide +kernel
theorem dX12_close_5 : decode cX12_close 5 = .ok (.iconst 1, 1) := by decide +kernel
theorem dX12_close_6 : decode cX12_close 6 = .ok (.isub, 1) := by decide +kernel
theorem dX12_close_7 : decode cX12_close 7 = .ok (.putfield 118, 3) := by decide +kernel
theorem dX12_close_10 : decode cX12_close 10 = .ok (.return_, 1) := by decide +kernel
theorem dX12_compile_0 : decode cX12_compile 0 = .ok (.iconst 0, 1) := by decide +kernel
theorem dX12_compile_1 : decode cX12_compile 1 = .ok (.istore_n 1, 1) := by decide +kernel
theorem dX12_compile_2 : decode cX12_compile 2 = .ok (.iload_n 1, 1) := by decide +kernel
theorem dX12_compile_3 : decode cX12_compile 3 = .ok (.bipush 6, 2) := by decide +kernel
theorem dX12_compile_5 : decode cX12_compile 5 = .ok (.if_icmp .ge 16, 3) := by decide +kernel
theorem dX12_compile_8 : decode cX12_compile 8 = .ok (.aload_n 0, 1) := by decide +kernel
theorem dX12_compile_9 : decode cX12_compile 9 = .ok (.getfield 1, 3) := by decide +kernel
theorem dX12_compile_12 : decode cX12_compile 12 = .ok (.iload_n 1, 1) := by decide +kernel
theorem dX12_compile_13 : decode cX12_compile 13 = .ok (.iconst (-1), 1) := by decide +kernel
theorem dX12_compile_14 : decode cX12_compile 14 = .ok (.iastore, 1) := by decide +kernel
theorem dX12_compile_15 : decode cX12_compile 15 = .ok (.iinc 1 1, 3) := by decide +kernel
theorem dX12_compile_18 : decode cX12_compile 18 = .ok (.goto (-16), 3) := by decide +kernel
theorem dX12_compile_21 : decode cX12_compile 21 = .ok (.aload_n 0, 1) := by decide +kernel
theorem dX12_compile_22 : decode cX12_compile 22 = .ok (.iconst 0, 1) := by decide +kernel
theorem dX12_compile_23 : decode cX12_compile 23 = .ok (.putfield 232, 3) := by decide +kernel
theorem dX12_compile_26 : decode cX12_compile 26 = .ok (.aload_n 0, 1) := by decide +kernel
theorem dX12_compile_27 : decode cX12_compile 27 = .ok (.iconst 0, 1) := by decide +kernel
theorem dX12_compile_28 : decode cX12_compile 28 = .ok (.putfield 376, 3) := by decide +kernel
theorem dX12_compile_31 : decode cX12_compile 31 = .ok (.aload_n 0, 1) := by decide +kernel
theorem dX12_compile_32 : decode cX12_compile 32 = .ok (.getfield 18, 3) := by decide +kernel
theorem dX12_compile_35 : decode cX12_compile 35 = .ok (.sipush 2000, 3) := by decide +kernel
theorem dX12_compile_38 : decode cX12_compile 38 = .ok (.if_icmp .le 13, 3) := by decide +kernel
theorem dX12_compile_51 : decode cX12_compile 51 = .ok (.aload_n 0, 1) := by decide +kernel
theorem dX12_compile_52 : decode cX12_compile 52 = .ok (.invokevirtual 506, 3) := by decide +kernel
theorem dX12_compile_55 : decode cX12_compile 55 = .ok (.aload_n 0, 1) := by decide +kernel
theorem dX12_compile_56 : decode cX12_compile 56 = .ok (.iconst 0, 1) := by decide +kernel
theorem dX12_compile_57 : decode cX12_compile 57 = .ok (.putfield 250, 3) := by decide +kernel
theorem dX12_compile_60 : decode cX12_compile 60 = .ok (.aload_n 0, 1) := by decide +kernel
theorem dX12_compile_61 : decode cX12_compile 61 = .ok (.iconst 0, 1) := by decide +kernel
theorem dX12_compile_62 : decode cX12_compile 62 = .ok (.putfield 244, 3) := by decide +kernel
theorem dX12_compile_65 : decode cX12_compile 65 = .ok (.aload_n 0, 1) := by decide +kernel
theorem dX12_compile_66 : decode cX12_compile 66 = .ok (.invokevirtual 509, 3) := by decide +kernel
theorem dX12_compile_69 : decode cX12_compile 69 = .ok (.aload_n 0, 1) := by decide +kernel
theorem dX12_compile_70 : decode cX12_compile 70 = .ok (.invokevirtual 104, 3) := by decide +kernel
theorem dX12_compile_73 : decode cX12_compile 73 = .ok (.ifCond .ne 5, 3) := by decide +kernel
theorem dX12_compile_76 : decode cX12_compile 76 = .ok (.iconst 0, 1) := by decide +kernel
theorem dX12_compile_77 : decode cX12_compile 77 = .ok (.ireturn, 1) := by decide +kernel
theorem dX12_end_0 : decode cX12_end 0 = .ok (.iload_n 1, 1) := by decide +kernel
theorem dX12_end_1 : decode cX12_end 1 = .ok (.ifCond .lt 11, 3) := by decide +kernel
theorem dX12_end_4 : decode cX12_end 4 = .ok (.iload_n 1, 1) := by decide +kernel
theorem dX12_end_5 : decode cX12_end 5 = .ok (.aload_n 0, 1) := by decide +kernel
theorem dX12_end_6 : decode cX12_end 6 = .ok (.getfield 1007, 3) := by decide +kernel
theorem dX12_end_9 : decode cX12_end 9 = .ok (.if_icmp .le 5, 3) := by decide +kernel
theorem dX12_end_12 : decode cX12_end 12 = .ok (.iconst 0, 1) := by decide +kernel
theorem dX12_end_13 : decode cX12_end 13 = .ok (.ireturn, 1) := by decide +kernel
theorem dX12_end_14 : decode cX12_end 14 = .ok (.aload_n 0, 1) := by decide +kernel
theorem dX12_end_15 : decode cX12_end 15 = .ok (.iload_n 1, 1) := by decide +kernel
theorem dX12_end_16 : decode cX12_end 16 = .ok (.putfield 1007, 3) := by decide +kernel
theorem dX12_end_19 : decode cX12_end 19 = .ok (.iconst 1, 1) := by decide +kernel
theorem dX12_end_20 : decode cX12_end 20 = .ok (.ireturn, 1) := by decide +kernel
theorem dX12_fault_0 : decode cX12_fault 0 = .ok (.iload_n 1, 1) := by decide +kernel
theorem dX12_fault_1 : decode cX12_fault 1 = .ok (.ifCond .ne 14, 3) := by decide +kernel
theorem dX12_fault_4 : decode cX12_fault 4 = .ok (.iconst 0, 1) := by decide +kernel
theorem dX12_fault_5 : decode cX12_fault 5 = .ok (.aload_n 0, 1) := by decide +kernel
theorem dX12_fault_6 : decode cX12_fault 6 = .ok (.getfield 1162, 3) := by decide +kernel
theorem dX12_fault_9 : decode cX12_fault 9 = .ok (.invokestatic 282, 3) := by decide +kernel
theorem dX12_fault_12 : decode cX12_fault 12 = .ok (.goto 44, 3) := by decide +kernel
theorem dX12_fault_15 : decode cX12_fault 15 = .ok (.iload_n 1, 1) := by decide +kernel
theorem dX12_fault_16 : decode cX12_fault 16 = .ok (.iconst 1, 1) := by decide +kernel
theorem dX12_fault_17 : decode cX12_fault 17 = .ok (.if_icmp .ne 10, 3) := by decide +kernel
theorem dX12_fault_20 : decode cX12_fault 20 = .ok (.aload_n 0, 1) := by decide +kernel
theorem dX12_fault_21 : decode cX12_fault 21 = .ok (.getfield 1165, 3) := by decide +kernel
theorem dX12_fault_24 : decode cX12_fault 24 = .ok (.goto 32, 3) := by decide +kernel
theorem dX12_fault_27 : decode cX12_fault 27 = .ok (.iload_n 1, 1) := by decide +kernel
theorem dX12_fault_28 : decode cX12_fault 28 = .ok (.iconst 2, 1) := by decide +kernel
theorem dX12_fault_29 : decode cX12_fault 29 = .ok (.if_icmp .ne 14, 3) := by decide +kernel
theorem dX12_fault_32 : decode cX12_fault 32 = .ok (.iconst 0, 1) := by decide +kernel
theorem dX12_fault_33 : decode cX12_fault 33 = .ok (.aload_n 0, 1) := by decide +kernel
theorem dX12_fault_34 : decode cX12_fault 34 = .ok (.getfield 998, 3) := by decide +kernel
theorem dX12_fault_37 : decode cX12_fault 37 = .ok (.invokestatic 282, 3) := by decide +kernel
theorem dX12_fault_40 : decode cX12_fault 40 = .ok (.goto 16, 3) := by decide +kernel
theorem dX12_fault_43 : decode cX12_fault 43 = .ok (.iload_n 1, 1) := by decide +kernel
theorem dX12_fault_44 : decode cX12_fault 44 = .ok (.iconst 3, 1) := by decide +kernel
theorem dX12_fault_45 : decode cX12_fault 45 = .ok (.if_icmp .ne 10, 3) := by decide +kernel
theorem dX12_fault_48 : decode cX12_fault 48 = .ok (.aload_n 0, 1) := by decide +kernel
theorem dX12_fault_49 : decode cX12_fault 49 = .ok (.getfield 1001, 3) := by decide +kernel
theorem dX12_fault_52 : decode cX12_fault 52 = .ok (.goto 4, 3) := by decide +kernel
theorem dX12_fault_55 : decode cX12_fault 55 = .ok (.iconst (-1), 1) := by decide +kernel
theorem dX12_fault_56 : decode cX12_fault 56 = .ok (.ireturn, 1) := by decide +kernel
theorem dX12_faultKind_0 : decode cX12_faultKind 0 = .ok (.iconst 1, 1) := by decide +kernel
theorem dX12_faultKind_1 : decode cX12_faultKind 1 = .ok (.istore_n 1, 1) := by decide +kernel
theorem dX12_faultKind_2 : decode cX12_faultKind 2 = .ok (.iload_n 1, 1) := by decide +kernel
theorem dX12_faultKind_3 : decode cX12_faultKind 3 = .ok (.bipush 6, 2) := by decide +kernel
theorem dX12_faultKind_5 : decode cX12_faultKind 5 = .ok (.if_icmp .ge 20, 3) := by decide +kernel
theorem dX12_faultKind_8 : decode cX12_faultKind 8 = .ok (.aload_n 0, 1) := by decide +kernel
theorem dX12_faultKind_9 : decode cX12_faultKind 9 = .ok (.getfield 1, 3) := by decide +kernel
theorem dX12_faultKind_12 : decode cX12_faultKind 12 = .ok (.iload_n 1, 1) := by decide +kernel
theorem dX12_faultKind_13 : decode cX12_faultKind 13 = .ok (.iaload, 1) := by decide +kernel
theorem dX12_faultKind_14 : decode cX12_faultKind 14 = .ok (.ifCond .lt 5, 3) := by decide +kernel
theorem dX12_faultKind_17 : decode cX12_faultKind 17 = .ok (.iload_n 1, 1) := by decide +kernel
theorem dX12_faultKind_18 : decode cX12_faultKind 18 = .ok (.ireturn, 1) := by decide +kernel
theorem dX12_feed_0 : decode cX12_feed 0 = .ok (.aload_n 0, 1) := by decide +kernel
theorem dX12_feed_1 : decode cX12_feed 1 = .ok (.getfield 1007, 3) := by decide +kernel
theorem dX12_feed_4 : decode cX12_feed 4 = .ok (.bipush 20, 2) := by decide +kernel
theorem dX12_feed_6 : decode cX12_feed 6 = .ok (.iadd, 1) := by decide +kernel
theorem dX12_feed_7 : decode cX12_feed 7 = .ok (.ldc_w 1135, 3) := by decide +kernel
theorem dX12_feed_10 : decode cX12_feed 10 = .ok (.if_icmp .le 5, 3) := by decide +kernel
theorem dX12_feed_15 : decode cX12_feed 15 = .ok (.iconst 5, 1) := by decide +kernel
theorem dX12_feed_16 : decode cX12_feed 16 = .ok (.newarray .int, 2) := by decide +kernel
theorem dX12_feed_18 : decode cX12_feed 18 = .ok (.dup, 1) := by decide +kernel
theorem dX12_feed_19 : decode cX12_feed 19 = .ok (.iconst 0, 1) := by decide +kernel
theorem dX12_feed_20 : decode cX12_feed 20 = .ok (.iload_n 1, 1) := by decide +kernel
theorem dX12_feed_21 : decode cX12_feed 21 = .ok (.iastore, 1) := by decide +kernel
theorem dX12_feed_22 : decode cX12_feed 22 = .ok (.dup, 1) := by decide +kernel
theorem dX12_feed_23 : decode cX12_feed 23 = .ok (.iconst 1, 1) := by decide +kernel
theorem dX12_feed_24 : decode cX12_feed 24 = .ok (.iload_n 2, 1) := by decide +kernel
theorem dX12_feed_25 : decode cX12_feed 25 = .ok (.iastore, 1) := by decide +kernel
theorem dX12_feed_26 : decode cX12_feed 26 = .ok (.dup, 1) := by decide +kernel
theorem dX12_feed_27 : decode cX12_feed 27 = .ok (.iconst 2, 1) := by decide +kernel
theorem dX12_feed_28 : decode cX12_feed 28 = .ok (.iload_n 3, 1) := by decide +kernel
theorem dX12_feed_29 : decode cX12_feed 29 = .ok (.iastore, 1) := by decide +kernel
theorem dX12_feed_30 : decode cX12_feed 30 = .ok (.dup, 1) := by decide +kernel
theorem dX12_feed_31 : decode cX12_feed 31 = .ok (.iconst 3, 1) := by decide +kernel
theorem dX12_feed_32 : decode cX12_feed 32 = .ok (.iload 4, 2) := by decide +kernel
theorem dX12_feed_34 : decode cX12_feed 34 = .ok (.iastore, 1) := by decide +kernel
theorem dX12_feed_35 : decode cX12_feed 35 = .ok (.dup, 1) := by decide +kernel
theorem dX12_feed_36 : decode cX12_feed 36 = .ok (.iconst 4, 1) := by decide +kernel
theorem dX12_feed_37 : decode cX12_feed 37 = .ok (.iload 5, 2) := by decide +kernel
theorem dX12_feed_39 : decode cX12_feed 39 = .ok (.iastore, 1) := by decide +kernel
theorem dX12_feed_40 : decode cX12_feed 40 = .ok (.astore 6, 2) := by decide +kernel
theorem dX12_feed_42 : decode cX12_feed 42 = .ok (.iconst 0, 1) := by decide +kernel
theorem dX12_feed_43 : decode cX12_feed 43 = .ok (.istore 7, 2) := by decide +kernel
theorem dX12_feed_45 : decode cX12_feed 45 = .ok (.iload 7, 2) := by decide +kernel
theorem dX12_feed_47 : decode cX12_feed 47 = .ok (.bipush 20, 2) := by decide +kernel
theorem dX12_feed_49 : decode cX12_feed 49 = .ok (.if_icmp .ge 47, 3) := by decide +kernel
theorem dX12_feed_52 : decode cX12_feed 52 = .ok (.aload_n 0, 1) := by decide +kernel
theorem dX12_feed_53 : decode cX12_feed 53 = .ok (.getfield 992, 3) := by decide +kernel
theorem dX12_feed_56 : decode cX12_feed 56 = .ok (.aload_n 0, 1) := by decide +kernel
theorem dX12_feed_57 : decode cX12_feed 57 = .ok (.getfield 1007, 3) := by decide +kernel
theorem dX12_feed_60 : decode cX12_feed 60 = .ok (.aload 6, 2) := by decide +kernel
theorem dX12_feed_62 : decode cX12_feed 62 = .ok (.iload 7, 2) := by decide +kernel
theorem dX12_feed_64 : decode cX12_feed 64 = .ok (.iconst 4, 1) := by decide +kernel
theorem dX12_feed_65 : decode cX12_feed 65 = .ok (.idiv, 1) := by decide +kernel
theorem dX12_feed_66 : decode cX12_feed 66 = .ok (.iaload, 1) := by decide +kernel
theorem dX12_feed_67 : decode cX12_feed 67 = .ok (.bipush 24, 2) := by decide +kernel
theorem dX12_feed_69 : decode cX12_feed 69 = .ok (.bipush 8, 2) := by decide +kernel
theorem dX12_feed_71 : decode cX12_feed 71 = .ok (.iload 7, 2) := by decide +kernel
theorem dX12_feed_73 : decode cX12_feed 73 = .ok (.iconst 4, 1) := by decide +kernel
theorem dX12_feed_74 : decode cX12_feed 74 = .ok (.irem, 1) := by decide +kernel
theorem dX12_feed_75 : decode cX12_feed 75 = .ok (.imul, 1) := by decide +kernel
theorem dX12_feed_76 : decode cX12_feed 76 = .ok (.isub, 1) := by decide +kernel
theorem dX12_feed_77 : decode cX12_feed 77 = .ok (.ishr, 1) := by decide +kernel
theorem dX12_feed_78 : decode cX12_feed 78 = .ok (.i2b, 1) := by decide +kernel
theorem dX12_feed_79 : decode cX12_feed 79 = .ok (.bastore, 1) := by decide +kernel
theorem dX12_feed_80 : decode cX12_feed 80 = .ok (.aload_n 0, 1) := by decide +kernel
theorem dX12_feed_81 : decode cX12_feed 81 = .ok (.dup, 1) := by decide +kernel
theorem dX12_feed_82 : decode cX12_feed 82 = .ok (.getfield 1007, 3) := by decide +kernel
theorem dX12_feed_85 : decode cX12_feed 85 = .ok (.iconst 1, 1) := by decide +kernel
theorem dX12_feed_86 : decode cX12_feed 86 = .ok (.iadd, 1) := by decide +kernel
theorem dX12_feed_87 : decode cX12_feed 87 = .ok (.putfield 1007, 3) := by decide +kernel
theorem dX12_feed_90 : decode cX12_feed 90 = .ok (.iinc 7 1, 3) := by decide +kernel
theorem dX12_feed_93 : decode cX12_feed 93 = .ok (.goto (-48), 3) := by decide +kernel
theorem dX12_feed_96 : decode cX12_feed 96 = .ok (.aload_n 0, 1) := by decide +kernel
theorem dX12_feed_97 : decode cX12_feed 97 = .ok (.getfield 1007, 3) := by decide +kernel
theorem dX12_feed_100 : decode cX12_feed 100 = .ok (.ireturn, 1) := by decide +kernel
theorem dX12_freeze_0 : decode cX12_freeze 0 = .ok (.aload_n 0, 1) := by decide +kernel
theorem dX12_freeze_1 : decode cX12_freeze 1 = .ok (.getfield 566, 3) := by decide +kernel
theorem dX12_freeze_4 : decode cX12_freeze 4 = .ok (.ifCond .eq 10, 3) := by decide +kernel
theorem dX12_freeze_14 : decode cX12_freeze 14 = .ok (.iconst (-1), 1) := by decide +kernel
theorem dX12_freeze_15 : decode cX12_freeze 15 = .ok (.ireturn, 1) := by decide +kernel
theorem dX12_good_0 : decode cX12_good 0 = .ok (.aload_n 0, 1) := by decide +kernel
theorem dX12_good_1 : decode cX12_good 1 = .ok (.getfield 1, 3) := by decide +kernel
theorem dX12_good_4 : decode cX12_good 4 = .ok (.iconst 1, 1) := by decide +kernel
theorem dX12_good_5 : decode cX12_good 5 = .ok (.iaload, 1) := by decide +kernel
theorem dX12_good_6 : decode cX12_good 6 = .ok (.ifCond .ge 7, 3) := by decide +kernel
theorem dX12_good_9 : decode cX12_good 9 = .ok (.iconst 1, 1) := by decide +kernel
theorem dX12_good_10 : decode cX12_good 10 = .ok (.goto 4, 3) := by decide +kernel
theorem dX12_good_13 : decode cX12_good 13 = .ok (.iconst 0, 1) := by decide +kernel
theorem dX12_good_14 : decode cX12_good 14 = .ok (.ireturn, 1) := by decide +kernel
theorem dX12_image__0 : decode cX12_image_ 0 = .ok (.iload_n 1, 1) := by decide +kernel
theorem dX12_image__1 : decode cX12_image_ 1 = .ok (.ifCond .lt 24, 3) := by decide +kernel
theorem dX12_image__4 : decode cX12_image_ 4 = .ok (.iload_n 1, 1) := by decide +kernel
theorem dX12_image__5 : decode cX12_image_ 5 = .ok (.aload_n 0, 1) := by decide +kernel
theorem dX12_image__6 : decode cX12_image_ 6 = .ok (.getfield 978, 3) := by decide +kernel
theorem dX12_image__9 : decode cX12_image_ 9 = .ok (.if_icmp .ge 16, 3) := by decide +kernel
theorem dX12_image__25 : decode cX12_image_ 25 = .ok (.iconst (-1), 1) := by decide +kernel
theorem dX12_image__26 : decode cX12_image_ 26 = .ok (.ireturn, 1) := by decide +kernel
theorem dX12_init_0 : decode cX12_init 0 = .ok (.aload_n 0, 1) := by decide +kernel
theorem dX12_init_1 : decode cX12_init 1 = .ok (.invokespecial 1127, 3) := by decide +kernel
theorem dX12_init_4 : decode cX12_init 4 = .ok (.aload_n 0, 1) := by decide +kernel
theorem dX12_init_5 : decode cX12_init 5 = .ok (.sipush 2004, 3) := by decide +kernel
theorem dX12_init_8 : decode cX12_init 8 = .ok (.newarray .byte, 2) := by decide +kernel
theorem dX12_init_10 : decode cX12_init 10 = .ok (.putfield 22, 3) := by decide +kernel
theorem dX12_init_13 : decode cX12_init 13 = .ok (.aload_n 0, 1) := by decide +kernel
theorem dX12_init_14 : decode cX12_init 14 = .ok (.sipush 2010, 3) := by decide +kernel
theorem dX12_init_17 : decode cX12_init 17 = .ok (.newarray .int, 2) := by decide +kernel
theorem dX12_init_19 : decode cX12_init 19 = .ok (.putfield 49, 3) := by decide +kernel
theorem dX12_init_22 : decode cX12_init 22 = .ok (.aload_n 0, 1) := by decide +kernel
theorem dX12_init_23 : decode cX12_init 23 = .ok (.sipush 2010, 3) := by decide +kernel
theorem dX12_init_26 : decode cX12_init 26 = .ok (.newarray .int, 2) := by decide +kernel
theorem dX12_init_28 : decode cX12_init 28 = .ok (.putfield 11, 3) := by decide +kernel
theorem dX12_init_31 : decode cX12_init 31 = .ok (.aload_n 0, 1) := by decide +kernel
theorem dX12_init_32 : decode cX12_init 32 = .ok (.sipush 2010, 3) := by decide +kernel
theorem dX12_init_35 : decode cX12_init 35 = .ok (.newarray .int, 2) := by decide +kernel
theorem dX12_init_37 : decode cX12_init 37 = .ok (.putfield 59, 3) := by decide +kernel
theorem dX12_init_40 : decode cX12_init 40 = .ok (.aload_n 0, 1) := by decide +kernel
theorem dX12_init_41 : decode cX12_init 41 = .ok (.sipush 2010, 3) := by decide +kernel
theorem dX12_init_44 : decode cX12_init 44 = .ok (.newarray .int, 2) := by decide +kernel
theorem dX12_init_46 : decode cX12_init 46 = .ok (.putfield 46, 3) := by decide +kernel
theorem dX12_init_49 : decode cX12_init 49 = .ok (.aload_n 0, 1) := by decide +kernel
theorem dX12_init_50 : decode cX12_init 50 = .ok (.sipush 2010, 3) := by decide +kernel
theorem dX12_init_53 : decode cX12_init 53 = .ok (.newarray .int, 2) := by decide +kernel
theorem dX12_init_55 : decode cX12_init 55 = .ok (.putfield 76, 3) := by decide +kernel
theorem dX12_init_58 : decode cX12_init 58 = .ok (.aload_n 0, 1) := by decide +kernel
theorem dX12_init_59 : decode cX12_init 59 = .ok (.bipush 6, 2) := by decide +kernel
theorem dX12_init_61 : decode cX12_init 61 = .ok (.newarray .int, 2) := by decide +kernel
theorem dX12_init_63 : decode cX12_init 63 = .ok (.putfield 1, 3) := by decide +kernel
theorem dX12_init_66 : decode cX12_init 66 = .ok (.aload_n 0, 1) := by decide +kernel
theorem dX12_init_67 : decode cX12_init 67 = .ok (.sipush 400, 3) := by decide +kernel
theorem dX12_init_70 : decode cX12_init 70 = .ok (.newarray .int, 2) := by decide +kernel
theorem dX12_init_72 : decode cX12_init 72 = .ok (.putfield 161, 3) := by decide +kernel
theorem dX12_init_75 : decode cX12_init 75 = .ok (.aload_n 0, 1) := by decide +kernel
theorem dX12_init_76 : decode cX12_init 76 = .ok (.sipush 400, 3) := by decide +kernel
theorem dX12_init_79 : decode cX12_init 79 = .ok (.newarray .int, 2) := by decide +kernel
theorem dX12_init_81 : decode cX12_init 81 = .ok (.putfield 155, 3) := by decide +kernel
theorem dX12_init_84 : decode cX12_init 84 = .ok (.aload_n 0, 1) := by decide +kernel
theorem dX12_init_85 : decode cX12_init 85 = .ok (.sipush 700, 3) := by decide +kernel
theorem dX12_init_88 : decode cX12_init 88 = .ok (.newarray .int, 2) := by decide +kernel
theorem dX12_init_90 : decode cX12_init 90 = .ok (.putfield 192, 3) := by decide +kernel
theorem dX12_init_93 : decode cX12_init 93 = .ok (.aload_n 0, 1) := by decide +kernel
theorem dX12_init_94 : decode cX12_init 94 = .ok (.sipush 700, 3) := by decide +kernel
theorem dX12_init_97 : decode cX12_init 97 = .ok (.newarray .int, 2) := by decide +kernel
theorem dX12_init_99 : decode cX12_init 99 = .ok (.putfield 195, 3) := by decide +kernel
theorem dX12_init_102 : decode cX12_init 102 = .ok (.aload_n 0, 1) := by decide +kernel
theorem dX12_init_103 : decode cX12_init 103 = .ok (.sipush 700, 3) := by decide +kernel
theorem dX12_init_106 : decode cX12_init 106 = .ok (.newarray .int, 2) := by decide +kernel
theorem dX12_init_108 : decode cX12_init 108 = .ok (.putfield 198, 3) := by decide +kernel
theorem dX12_init_111 : decode cX12_init 111 = .ok (.aload_n 0, 1) := by decide +kernel
theorem dX12_init_112 : decode cX12_init 112 = .ok (.sipush 700, 3) := by decide +kernel
theorem dX12_init_115 : decode cX12_init 115 = .ok (.newarray .int, 2) := by decide +kernel
theorem dX12_init_117 : decode cX12_init 117 = .ok (.putfield 177, 3) := by decide +kernel
theorem dX12_init_120 : decode cX12_init 120 = .ok (.aload_n 0, 1) := by decide +kernel
theorem dX12_init_121 : decode cX12_init 121 = .ok (.sipush 700, 3) := by decide +kernel
theorem dX12_init_124 : decode cX12_init 124 = .ok (.newarray .int, 2) := by decide +kernel
theorem dX12_init_126 : decode cX12_init 126 = .ok (.putfield 180, 3) := by decide +kernel
theorem dX12_init_129 : decode cX12_init 129 = .ok (.aload_n 0, 1) := by decide +kernel
theorem dX12_init_130 : decode cX12_init 130 = .ok (.sipush 700, 3) := by decide +kernel
theorem dX12_init_133 : decode cX12_init 133 = .ok (.newarray .int, 2) := by decide +kernel
theorem dX12_init_135 : decode cX12_init 135 = .ok (.putfield 183, 3) := by decide +kernel
theorem dX12_init_138 : decode cX12_init 138 = .ok (.aload_n 0, 1) := by decide +kernel
theorem dX12_init_139 : decode cX12_init 139 = .ok (.sipush 700, 3) := by decide +kernel
theorem dX12_init_142 : decode cX12_init 142 = .ok (.newarray .int, 2) := by decide +kernel
theorem dX12_init_144 : decode cX12_init 144 = .ok (.putfield 186, 3) := by decide +kernel
theorem dX12_init_147 : decode cX12_init 147 = .ok (.aload_n 0, 1) := by decide +kernel
theorem dX12_init_148 : decode cX12_init 148 = .ok (.sipush 400, 3) := by decide +kernel
theorem dX12_init_151 : decode cX12_init 151 = .ok (.newarray .int, 2) := by decide +kernel
theorem dX12_init_153 : decode cX12_init 153 = .ok (.putfield 201, 3) := by decide +kernel
theorem dX12_init_156 : decode cX12_init 156 = .ok (.aload_n 0, 1) := by decide +kernel
theorem dX12_init_157 : decode cX12_init 157 = .ok (.sipush 400, 3) := by decide +kernel
theorem dX12_init_160 : decode cX12_init 160 = .ok (.newarray .int, 2) := by decide +kernel
theorem dX12_init_162 : decode cX12_init 162 = .ok (.putfield 208, 3) := by decide +kernel
theorem dX12_init_165 : decode cX12_init 165 = .ok (.aload_n 0, 1) := by decide +kernel
theorem dX12_init_166 : decode cX12_init 166 = .ok (.sipush 400, 3) := by decide +kernel
theorem dX12_init_169 : decode cX12_init 169 = .ok (.newarray .int, 2) := by decide +kernel
theorem dX12_init_171 : decode cX12_init 171 = .ok (.putfield 211, 3) := by decide +kernel
theorem dX12_init_174 : decode cX12_init 174 = .ok (.aload_n 0, 1) := by decide +kernel
theorem dX12_init_175 : decode cX12_init 175 = .ok (.sipush 400, 3) := by decide +kernel
theorem dX12_init_178 : decode cX12_init 178 = .ok (.newarray .int, 2) := by decide +kernel
theorem dX12_init_180 : decode cX12_init 180 = .ok (.putfield 214, 3) := by decide +kernel
theorem dX12_init_183 : decode cX12_init 183 = .ok (.aload_n 0, 1) := by decide +kernel
theorem dX12_init_184 : decode cX12_init 184 = .ok (.sipush 400, 3) := by decide +kernel
theorem dX12_init_187 : decode cX12_init 187 = .ok (.newarray .int, 2) := by decide +kernel
theorem dX12_init_189 : decode cX12_init 189 = .ok (.putfield 226, 3) := by decide +kernel
theorem dX12_init_192 : decode cX12_init 192 = .ok (.aload_n 0, 1) := by decide +kernel
theorem dX12_init_193 : decode cX12_init 193 = .ok (.sipush 400, 3) := by decide +kernel
theorem dX12_init_196 : decode cX12_init 196 = .ok (.newarray .int, 2) := by decide +kernel
theorem dX12_init_198 : decode cX12_init 198 = .ok (.putfield 217, 3) := by decide +kernel
theorem dX12_init_201 : decode cX12_init 201 = .ok (.aload_n 0, 1) := by decide +kernel
theorem dX12_init_202 : decode cX12_init 202 = .ok (.sipush 400, 3) := by decide +kernel
theorem dX12_init_205 : decode cX12_init 205 = .ok (.newarray .boolean, 2) := by decide +kernel
theorem dX12_init_207 : decode cX12_init 207 = .ok (.putfield 204, 3) := by decide +kernel
theorem dX12_init_210 : decode cX12_init 210 = .ok (.aload_n 0, 1) := by decide +kernel
theorem dX12_init_211 : decode cX12_init 211 = .ok (.sipush 1000, 3) := by decide +kernel
theorem dX12_init_214 : decode cX12_init 214 = .ok (.newarray .int, 2) := by decide +kernel
theorem dX12_init_216 : decode cX12_init 216 = .ok (.putfield 223, 3) := by decide +kernel
theorem dX12_init_219 : decode cX12_init 219 = .ok (.aload_n 0, 1) := by decide +kernel
theorem dX12_init_220 : decode cX12_init 220 = .ok (.sipush 1000, 3) := by decide +kernel
theorem dX12_init_223 : decode cX12_init 223 = .ok (.newarray .int, 2) := by decide +kernel
theorem dX12_init_225 : decode cX12_init 225 = .ok (.putfield 220, 3) := by decide +kernel
theorem dX12_init_228 : decode cX12_init 228 = .ok (.aload_n 0, 1) := by decide +kernel
theorem dX12_init_229 : decode cX12_init 229 = .ok (.sipush 6000, 3) := by decide +kernel
theorem dX12_init_232 : decode cX12_init 232 = .ok (.newarray .int, 2) := by decide +kernel
theorem dX12_init_234 : decode cX12_init 234 = .ok (.putfield 235, 3) := by decide +kernel
theorem dX12_init_237 : decode cX12_init 237 = .ok (.aload_n 0, 1) := by decide +kernel
theorem dX12_init_238 : decode cX12_init 238 = .ok (.sipush 6000, 3) := by decide +kernel
theorem dX12_init_241 : decode cX12_init 241 = .ok (.newarray .int, 2) := by decide +kernel
theorem dX12_init_243 : decode cX12_init 243 = .ok (.putfield 238, 3) := by decide +kernel
theorem dX12_init_246 : decode cX12_init 246 = .ok (.aload_n 0, 1) := by decide +kernel
theorem dX12_init_247 : decode cX12_init 247 = .ok (.sipush 6000, 3) := by decide +kernel
theorem dX12_init_250 : decode cX12_init 250 = .ok (.newarray .int, 2) := by decide +kernel
theorem dX12_init_252 : decode cX12_init 252 = .ok (.putfield 241, 3) := by decide +kernel
theorem dX12_init_255 : decode cX12_init 255 = .ok (.aload_n 0, 1) := by decide +kernel
theorem dX12_init_256 : decode cX12_init 256 = .ok (.sipush 6000, 3) := by decide +kernel
theorem dX12_init_259 : decode cX12_init 259 = .ok (.newarray .int, 2) := by decide +kernel
theorem dX12_init_261 : decode cX12_init 261 = .ok (.putfield 247, 3) := by decide +kernel
theorem dX12_init_264 : decode cX12_init 264 = .ok (.aload_n 0, 1) := by decide +kernel
theorem dX12_init_265 : decode cX12_init 265 = .ok (.sipush 6000, 3) := by decide +kernel
theorem dX12_init_268 : decode cX12_init 268 = .ok (.newarray .int, 2) := by decide +kernel
theorem dX12_init_270 : decode cX12_init 270 = .ok (.putfield 253, 3) := by decide +kernel
theorem dX12_init_273 : decode cX12_init 273 = .ok (.aload_n 0, 1) := by decide +kernel
theorem dX12_init_274 : decode cX12_init 274 = .ok (.sipush 6000, 3) := by decide +kernel
theorem dX12_init_277 : decode cX12_init 277 = .ok (.newarray .int, 2) := by decide +kernel
theorem dX12_init_279 : decode cX12_init 279 = .ok (.putfield 259, 3) := by decide +kernel
theorem dX12_init_282 : decode cX12_init 282 = .ok (.aload_n 0, 1) := by decide +kernel
theorem dX12_init_283 : decode cX12_init 283 = .ok (.ldc_w 1132, 3) := by decide +kernel
theorem dX12_init_286 : decode cX12_init 286 = .ok (.newarray .int, 2) := by decide +kernel
theorem dX12_init_288 : decode cX12_init 288 = .ok (.putfield 267, 3) := by decide +kernel
theorem dX12_init_291 : decode cX12_init 291 = .ok (.aload_n 0, 1) := by decide +kernel
theorem dX12_init_292 : decode cX12_init 292 = .ok (.ldc_w 1133, 3) := by decide +kernel
theorem dX12_init_295 : decode cX12_init 295 = .ok (.newarray .int, 2) := by decide +kernel
theorem dX12_init_297 : decode cX12_init 297 = .ok (.putfield 273, 3) := by decide +kernel
theorem dX12_init_300 : decode cX12_init 300 = .ok (.aload_n 0, 1) := by decide +kernel
theorem dX12_init_301 : decode cX12_init 301 = .ok (.sipush 420, 3) := by decide +kernel
theorem dX12_init_304 : decode cX12_init 304 = .ok (.newarray .int, 2) := by decide +kernel
theorem dX12_init_306 : decode cX12_init 306 = .ok (.putfield 550, 3) := by decide +kernel
theorem dX12_init_309 : decode cX12_init 309 = .ok (.aload_n 0, 1) := by decide +kernel
theorem dX12_init_310 : decode cX12_init 310 = .ok (.sipush 420, 3) := by decide +kernel
theorem dX12_init_313 : decode cX12_init 313 = .ok (.newarray .int, 2) := by decide +kernel
theorem dX12_init_315 : decode cX12_init 315 = .ok (.putfield 553, 3) := by decide +kernel
theorem dX12_init_318 : decode cX12_init 318 = .ok (.aload_n 0, 1) := by decide +kernel
theorem dX12_init_319 : decode cX12_init 319 = .ok (.sipush 420, 3) := by decide +kernel
theorem dX12_init_322 : decode cX12_init 322 = .ok (.newarray .int, 2) := by decide +kernel
theorem dX12_init_324 : decode cX12_init 324 = .ok (.putfield 556, 3) := by decide +kernel
theorem dX12_init_327 : decode cX12_init 327 = .ok (.aload_n 0, 1) := by decide +kernel
theorem dX12_init_328 : decode cX12_init 328 = .ok (.sipush 420, 3) := by decide +kernel
theorem dX12_init_331 : decode cX12_init 331 = .ok (.newarray .int, 2) := by decide +kernel
theorem dX12_init_333 : decode cX12_init 333 = .ok (.putfield 285, 3) := by decide +kernel
theorem dX12_init_336 : decode cX12_init 336 = .ok (.aload_n 0, 1) := by decide +kernel
theorem dX12_init_337 : decode cX12_init 337 = .ok (.sipush 200, 3) := by decide +kernel
theorem dX12_init_340 : decode cX12_init 340 = .ok (.newarray .int, 2) := by decide +kernel
theorem dX12_init_342 : decode cX12_init 342 = .ok (.putfield 379, 3) := by decide +kernel
theorem dX12_init_345 : decode cX12_init 345 = .ok (.aload_n 0, 1) := by decide +kernel
theorem dX12_init_346 : decode cX12_init 346 = .ok (.sipush 200, 3) := by decide +kernel
theorem dX12_init_349 : decode cX12_init 349 = .ok (.newarray .int, 2) := by decide +kernel
theorem dX12_init_351 : decode cX12_init 351 = .ok (.putfield 382, 3) := by decide +kernel
theorem dX12_init_354 : decode cX12_init 354 = .ok (.aload_n 0, 1) := by decide +kernel
theorem dX12_init_355 : decode cX12_init 355 = .ok (.sipush 1100, 3) := by decide +kernel
theorem dX12_init_358 : decode cX12_init 358 = .ok (.newarray .int, 2) := by decide +kernel
theorem dX12_init_360 : decode cX12_init 360 = .ok (.putfield 304, 3) := by decide +kernel
theorem dX12_init_363 : decode cX12_init 363 = .ok (.aload_n 0, 1) := by decide +kernel
theorem dX12_init_364 : decode cX12_init 364 = .ok (.sipush 1100, 3) := by decide +kernel
theorem dX12_init_367 : decode cX12_init 367 = .ok (.newarray .int, 2) := by decide +kernel
theorem dX12_init_369 : decode cX12_init 369 = .ok (.putfield 270, 3) := by decide +kernel
theorem dX12_init_372 : decode cX12_init 372 = .ok (.aload_n 0, 1) := by decide +kernel
theorem dX12_init_373 : decode cX12_init 373 = .ok (.sipush 2100, 3) := by decide +kernel
theorem dX12_init_376 : decode cX12_init 376 = .ok (.newarray .int, 2) := by decide +kernel
theorem dX12_init_378 : decode cX12_init 378 = .ok (.putfield 276, 3) := by decide +kernel
theorem dX12_init_381 : decode cX12_init 381 = .ok (.aload_n 0, 1) := by decide +kernel
theorem dX12_init_382 : decode cX12_init 382 = .ok (.sipush 4000, 3) := by decide +kernel
theorem dX12_init_385 : decode cX12_init 385 = .ok (.newarray .byte, 2) := by decide +kernel
theorem dX12_init_387 : decode cX12_init 387 = .ok (.putfield 887, 3) := by decide +kernel
theorem dX12_init_390 : decode cX12_init 390 = .ok (.aload_n 0, 1) := by decide +kernel
theorem dX12_init_391 : decode cX12_init 391 = .ok (.bipush 8, 2) := by decide +kernel
theorem dX12_init_393 : decode cX12_init 393 = .ok (.newarray .int, 2) := by decide +kernel
theorem dX12_init_395 : decode cX12_init 395 = .ok (.putfield 597, 3) := by decide +kernel
theorem dX12_init_398 : decode cX12_init 398 = .ok (.aload_n 0, 1) := by decide +kernel
theorem dX12_init_399 : decode cX12_init 399 = .ok (.bipush 8, 2) := by decide +kernel
theorem dX12_init_401 : decode cX12_init 401 = .ok (.newarray .int, 2) := by decide +kernel
theorem dX12_init_403 : decode cX12_init 403 = .ok (.putfield 822, 3) := by decide +kernel
theorem dX12_init_406 : decode cX12_init 406 = .ok (.aload_n 0, 1) := by decide +kernel
theorem dX12_init_407 : decode cX12_init 407 = .ok (.sipush 800, 3) := by decide +kernel
theorem dX12_init_410 : decode cX12_init 410 = .ok (.newarray .int, 2) := by decide +kernel
theorem dX12_init_412 : decode cX12_init 412 = .ok (.putfield 600, 3) := by decide +kernel
theorem dX12_init_415 : decode cX12_init 415 = .ok (.aload_n 0, 1) := by decide +kernel
theorem dX12_init_416 : decode cX12_init 416 = .ok (.bipush 8, 2) := by decide +kernel
theorem dX12_init_418 : decode cX12_init 418 = .ok (.newarray .int, 2) := by decide +kernel
theorem dX12_init_420 : decode cX12_init 420 = .ok (.putfield 639, 3) := by decide +kernel
theorem dX12_init_423 : decode cX12_init 423 = .ok (.aload_n 0, 1) := by decide +kernel
theorem dX12_init_424 : decode cX12_init 424 = .ok (.bipush 8, 2) := by decide +kernel
theorem dX12_init_426 : decode cX12_init 426 = .ok (.newarray .int, 2) := by decide +kernel
theorem dX12_init_428 : decode cX12_init 428 = .ok (.putfield 642, 3) := by decide +kernel
theorem dX12_init_431 : decode cX12_init 431 = .ok (.aload_n 0, 1) := by decide +kernel
theorem dX12_init_432 : decode cX12_init 432 = .ok (.bipush 8, 2) := by decide +kernel
theorem dX12_init_434 : decode cX12_init 434 = .ok (.newarray .int, 2) := by decide +kernel
theorem dX12_init_436 : decode cX12_init 436 = .ok (.putfield 645, 3) := by decide +kernel
theorem dX12_init_439 : decode cX12_init 439 = .ok (.aload_n 0, 1) := by decide +kernel
theorem dX12_init_440 : decode cX12_init 440 = .ok (.bipush 8, 2) := by decide +kernel
theorem dX12_init_442 : decode cX12_init 442 = .ok (.newarray .int, 2) := by decide +kernel
theorem dX12_init_444 : decode cX12_init 444 = .ok (.putfield 657, 3) := by decide +kernel
theorem dX12_init_447 : decode cX12_init 447 = .ok (.aload_n 0, 1) := by decide +kernel
theorem dX12_init_448 : decode cX12_init 448 = .ok (.bipush 8, 2) := by decide +kernel
theorem dX12_init_450 : decode cX12_init 450 = .ok (.newarray .int, 2) := by decide +kernel
theorem dX12_init_452 : decode cX12_init 452 = .ok (.putfield 660, 3) := by decide +kernel
theorem dX12_init_455 : decode cX12_init 455 = .ok (.aload_n 0, 1) := by decide +kernel
theorem dX12_init_456 : decode cX12_init 456 = .ok (.bipush 8, 2) := by decide +kernel
theorem dX12_init_458 : decode cX12_init 458 = .ok (.newarray .int, 2) := by decide +kernel
theorem dX12_init_460 : decode cX12_init 460 = .ok (.putfield 663, 3) := by decide +kernel
theorem dX12_init_463 : decode cX12_init 463 = .ok (.aload_n 0, 1) := by decide +kernel
theorem dX12_init_464 : decode cX12_init 464 = .ok (.bipush 8, 2) := by decide +kernel
theorem dX12_init_466 : decode cX12_init 466 = .ok (.newarray .int, 2) := by decide +kernel
theorem dX12_init_468 : decode cX12_init 468 = .ok (.putfield 666, 3) := by decide +kernel
theorem dX12_init_471 : decode cX12_init 471 = .ok (.aload_n 0, 1) := by decide +kernel
theorem dX12_init_472 : decode cX12_init 472 = .ok (.bipush 8, 2) := by decide +kernel
theorem dX12_init_474 : decode cX12_init 474 = .ok (.newarray .int, 2) := by decide +kernel
theorem dX12_init_476 : decode cX12_init 476 = .ok (.putfield 669, 3) := by decide +kernel
theorem dX12_init_479 : decode cX12_init 479 = .ok (.aload_n 0, 1) := by decide +kernel
theorem dX12_init_480 : decode cX12_init 480 = .ok (.bipush 8, 2) := by decide +kernel
theorem dX12_init_482 : decode cX12_init 482 = .ok (.newarray .int, 2) := by decide +kernel
theorem dX12_init_484 : decode cX12_init 484 = .ok (.putfield 651, 3) := by decide +kernel
theorem dX12_init_487 : decode cX12_init 487 = .ok (.aload_n 0, 1) := by decide +kernel
theorem dX12_init_488 : decode cX12_init 488 = .ok (.bipush 8, 2) := by decide +kernel
theorem dX12_init_490 : decode cX12_init 490 = .ok (.newarray .int, 2) := by decide +kernel
theorem dX12_init_492 : decode cX12_init 492 = .ok (.putfield 756, 3) := by decide +kernel
theorem dX12_init_495 : decode cX12_init 495 = .ok (.aload_n 0, 1) := by decide +kernel
theorem dX12_init_496 : decode cX12_init 496 = .ok (.bipush 8, 2) := by decide +kernel
theorem dX12_init_498 : decode cX12_init 498 = .ok (.newarray .long, 2) := by decide +kernel
theorem dX12_init_500 : decode cX12_init 500 = .ok (.putfield 672, 3) := by decide +kernel
theorem dX12_init_503 : decode cX12_init 503 = .ok (.aload_n 0, 1) := by decide +kernel
theorem dX12_init_504 : decode cX12_init 504 = .ok (.sipush 240, 3) := by decide +kernel
theorem dX12_init_507 : decode cX12_init 507 = .ok (.newarray .int, 2) := by decide +kernel
theorem dX12_init_509 : decode cX12_init 509 = .ok (.putfield 679, 3) := by decide +kernel
theorem dX12_init_512 : decode cX12_init 512 = .ok (.aload_n 0, 1) := by decide +kernel
theorem dX12_init_513 : decode cX12_init 513 = .ok (.sipush 240, 3) := by decide +kernel
theorem dX12_init_516 : decode cX12_init 516 = .ok (.newarray .int, 2) := by decide +kernel
theorem dX12_init_518 : decode cX12_init 518 = .ok (.putfield 682, 3) := by decide +kernel
theorem dX12_init_521 : decode cX12_init 521 = .ok (.aload_n 0, 1) := by decide +kernel
theorem dX12_init_522 : decode cX12_init 522 = .ok (.sipush 240, 3) := by decide +kernel
theorem dX12_init_525 : decode cX12_init 525 = .ok (.newarray .int, 2) := by decide +kernel
theorem dX12_init_527 : decode cX12_init 527 = .ok (.putfield 685, 3) := by decide +kernel
theorem dX12_init_530 : decode cX12_init 530 = .ok (.aload_n 0, 1) := by decide +kernel
theorem dX12_init_531 : decode cX12_init 531 = .ok (.sipush 240, 3) := by decide +kernel
theorem dX12_init_534 : decode cX12_init 534 = .ok (.newarray .int, 2) := by decide +kernel
theorem dX12_init_536 : decode cX12_init 536 = .ok (.putfield 688, 3) := by decide +kernel
theorem dX12_init_539 : decode cX12_init 539 = .ok (.aload_n 0, 1) := by decide +kernel
theorem dX12_init_540 : decode cX12_init 540 = .ok (.sipush 3120, 3) := by decide +kernel
theorem dX12_init_543 : decode cX12_init 543 = .ok (.newarray .int, 2) := by decide +kernel
theorem dX12_init_545 : decode cX12_init 545 = .ok (.putfield 721, 3) := by decide +kernel
theorem dX12_init_548 : decode cX12_init 548 = .ok (.aload_n 0, 1) := by decide +kernel
theorem dX12_init_549 : decode cX12_init 549 = .ok (.sipush 2880, 3) := by decide +kernel
theorem dX12_init_552 : decode cX12_init 552 = .ok (.newarray .int, 2) := by decide +kernel
theorem dX12_init_554 : decode cX12_init 554 = .ok (.putfield 724, 3) := by decide +kernel
theorem dX12_init_557 : decode cX12_init 557 = .ok (.aload_n 0, 1) := by decide +kernel
theorem dX12_init_558 : decode cX12_init 558 = .ok (.sipush 5040, 3) := by decide +kernel
theorem dX12_init_561 : decode cX12_init 561 = .ok (.newarray .int, 2) := by decide +kernel
theorem dX12_init_563 : decode cX12_init 563 = .ok (.putfield 727, 3) := by decide +kernel
theorem dX12_init_566 : decode cX12_init 566 = .ok (.aload_n 0, 1) := by decide +kernel
theorem dX12_init_567 : decode cX12_init 567 = .ok (.sipush 201, 3) := by decide +kernel
theorem dX12_init_570 : decode cX12_init 570 = .ok (.newarray .int, 2) := by decide +kernel
theorem dX12_init_572 : decode cX12_init 572 = .ok (.putfield 694, 3) := by decide +kernel
theorem dX12_init_575 : decode cX12_init 575 = .ok (.aload_n 0, 1) := by decide +kernel
theorem dX12_init_576 : decode cX12_init 576 = .ok (.sipush 201, 3) := by decide +kernel
theorem dX12_init_579 : decode cX12_init 579 = .ok (.newarray .int, 2) := by decide +kernel
theorem dX12_init_581 : decode cX12_init 581 = .ok (.putfield 733, 3) := by decide +kernel
theorem dX12_init_584 : decode cX12_init 584 = .ok (.aload_n 0, 1) := by decide +kernel
theorem dX12_init_585 : decode cX12_init 585 = .ok (.sipush 201, 3) := by decide +kernel
theorem dX12_init_588 : decode cX12_init 588 = .ok (.newarray .int, 2) := by decide +kernel
theorem dX12_init_590 : decode cX12_init 590 = .ok (.putfield 736, 3) := by decide +kernel
theorem dX12_init_593 : decode cX12_init 593 = .ok (.aload_n 0, 1) := by decide +kernel
theorem dX12_init_594 : decode cX12_init 594 = .ok (.sipush 201, 3) := by decide +kernel
theorem dX12_init_597 : decode cX12_init 597 = .ok (.newarray .int, 2) := by decide +kernel
theorem dX12_init_599 : decode cX12_init 599 = .ok (.putfield 739, 3) := by decide +kernel
theorem dX12_init_602 : decode cX12_init 602 = .ok (.aload_n 0, 1) := by decide +kernel
theorem dX12_init_603 : decode cX12_init 603 = .ok (.sipush 201, 3) := by decide +kernel
theorem dX12_init_606 : decode cX12_init 606 = .ok (.newarray .int, 2) := by decide +kernel
theorem dX12_init_608 : decode cX12_init 608 = .ok (.putfield 742, 3) := by decide +kernel
theorem dX12_init_611 : decode cX12_init 611 = .ok (.aload_n 0, 1) := by decide +kernel
theorem dX12_init_612 : decode cX12_init 612 = .ok (.sipush 6030, 3) := by decide +kernel
theorem dX12_init_615 : decode cX12_init 615 = .ok (.newarray .int, 2) := by decide +kernel
theorem dX12_init_617 : decode cX12_init 617 = .ok (.putfield 700, 3) := by decide +kernel
theorem dX12_init_620 : decode cX12_init 620 = .ok (.aload_n 0, 1) := by decide +kernel
theorem dX12_init_621 : decode cX12_init 621 = .ok (.sipush 8040, 3) := by decide +kernel
theorem dX12_init_624 : decode cX12_init 624 = .ok (.newarray .byte, 2) := by decide +kernel
theorem dX12_init_626 : decode cX12_init 626 = .ok (.putfield 867, 3) := by decide +kernel
theorem dX12_init_629 : decode cX12_init 629 = .ok (.aload_n 0, 1) := by decide +kernel
theorem dX12_init_630 : decode cX12_init 630 = .ok (.sipush 201, 3) := by decide +kernel
theorem dX12_init_633 : decode cX12_init 633 = .ok (.newarray .boolean, 2) := by decide +kernel
theorem dX12_init_635 : decode cX12_init 635 = .ok (.putfield 603, 3) := by decide +kernel
theorem dX12_init_638 : decode cX12_init 638 = .ok (.aload_n 0, 1) := by decide +kernel
theorem dX12_init_639 : decode cX12_init 639 = .ok (.sipush 201, 3) := by decide +kernel
theorem dX12_init_642 : decode cX12_init 642 = .ok (.newarray .boolean, 2) := by decide +kernel
theorem dX12_init_644 : decode cX12_init 644 = .ok (.putfield 691, 3) := by decide +kernel
theorem dX12_init_647 : decode cX12_init 647 = .ok (.aload_n 0, 1) := by decide +kernel
theorem dX12_init_648 : decode cX12_init 648 = .ok (.sipush 200, 3) := by decide +kernel
theorem dX12_init_651 : decode cX12_init 651 = .ok (.newarray .int, 2) := by decide +kernel
theorem dX12_init_653 : decode cX12_init 653 = .ok (.putfield 712, 3) := by decide +kernel
theorem dX12_init_656 : decode cX12_init 656 = .ok (.aload_n 0, 1) := by decide +kernel
theorem dX12_init_657 : decode cX12_init 657 = .ok (.bipush 13, 2) := by decide +kernel
theorem dX12_init_659 : decode cX12_init 659 = .ok (.newarray .int, 2) := by decide +kernel
theorem dX12_init_661 : decode cX12_init 661 = .ok (.putfield 715, 3) := by decide +kernel
theorem dX12_init_664 : decode cX12_init 664 = .ok (.aload_n 0, 1) := by decide +kernel
theorem dX12_init_665 : decode cX12_init 665 = .ok (.bipush 13, 2) := by decide +kernel
theorem dX12_init_667 : decode cX12_init 667 = .ok (.newarray .int, 2) := by decide +kernel
theorem dX12_init_669 : decode cX12_init 669 = .ok (.putfield 709, 3) := by decide +kernel
theorem dX12_init_672 : decode cX12_init 672 = .ok (.aload_n 0, 1) := by decide +kernel
theorem dX12_init_673 : decode cX12_init 673 = .ok (.bipush 20, 2) := by decide +kernel
theorem dX12_init_675 : decode cX12_init 675 = .ok (.newarray .int, 2) := by decide +kernel
theorem dX12_init_677 : decode cX12_init 677 = .ok (.putfield 819, 3) := by decide +kernel
theorem dX12_init_680 : decode cX12_init 680 = .ok (.aload_n 0, 1) := by decide +kernel
theorem dX12_init_681 : decode cX12_init 681 = .ok (.bipush 100, 2) := by decide +kernel
theorem dX12_init_683 : decode cX12_init 683 = .ok (.newarray .byte, 2) := by decide +kernel
theorem dX12_init_685 : decode cX12_init 685 = .ok (.putfield 870, 3) := by decide +kernel
theorem dX12_init_688 : decode cX12_init 688 = .ok (.aload_n 0, 1) := by decide +kernel
theorem dX12_init_689 : decode cX12_init 689 = .ok (.ldc_w 1134, 3) := by decide +kernel
theorem dX12_init_692 : decode cX12_init 692 = .ok (.newarray .byte, 2) := by decide +kernel
theorem dX12_init_694 : decode cX12_init 694 = .ok (.putfield 951, 3) := by decide +kernel
theorem dX12_init_697 : decode cX12_init 697 = .ok (.aload_n 0, 1) := by decide +kernel
theorem dX12_init_698 : decode cX12_init 698 = .ok (.ldc_w 1134, 3) := by decide +kernel
theorem dX12_init_701 : decode cX12_init 701 = .ok (.newarray .byte, 2) := by decide +kernel
theorem dX12_init_703 : decode cX12_init 703 = .ok (.putfield 948, 3) := by decide +kernel
theorem dX12_init_706 : decode cX12_init 706 = .ok (.aload_n 0, 1) := by decide +kernel
theorem dX12_init_707 : decode cX12_init 707 = .ok (.aload_n 0, 1) := by decide +kernel
theorem dX12_init_708 : decode cX12_init 708 = .ok (.getfield 951, 3) := by decide +kernel
theorem dX12_init_711 : decode cX12_init 711 = .ok (.putfield 918, 3) := by decide +kernel
theorem dX12_init_714 : decode cX12_init 714 = .ok (.aload_n 0, 1) := by decide +kernel
theorem dX12_init_715 : decode cX12_init 715 = .ok (.sipush 201, 3) := by decide +kernel
theorem dX12_init_718 : decode cX12_init 718 = .ok (.newarray .int, 2) := by decide +kernel
theorem dX12_init_720 : decode cX12_init 720 = .ok (.putfield 927, 3) := by decide +kernel
theorem dX12_init_723 : decode cX12_init 723 = .ok (.aload_n 0, 1) := by decide +kernel
theorem dX12_init_724 : decode cX12_init 724 = .ok (.sipush 202, 3) := by decide +kernel
theorem dX12_init_727 : decode cX12_init 727 = .ok (.newarray .int, 2) := by decide +kernel
theorem dX12_init_729 : decode cX12_init 729 = .ok (.putfield 933, 3) := by decide +kernel
theorem dX12_init_732 : decode cX12_init 732 = .ok (.aload_n 0, 1) := by decide +kernel
theorem dX12_init_733 : decode cX12_init 733 = .ok (.ldc_w 1135, 3) := by decide +kernel
theorem dX12_init_736 : decode cX12_init 736 = .ok (.newarray .byte, 2) := by decide +kernel
theorem dX12_init_738 : decode cX12_init 738 = .ok (.putfield 992, 3) := by decide +kernel
theorem dX12_init_741 : decode cX12_init 741 = .ok (.aload_n 0, 1) := by decide +kernel
theorem dX12_init_742 : decode cX12_init 742 = .ok (.iconst (-1), 1) := by decide +kernel
theorem dX12_init_743 : decode cX12_init 743 = .ok (.putfield 998, 3) := by decide +kernel
theorem dX12_init_746 : decode cX12_init 746 = .ok (.aload_n 0, 1) := by decide +kernel
theorem dX12_init_747 : decode cX12_init 747 = .ok (.iconst (-1), 1) := by decide +kernel
theorem dX12_init_748 : decode cX12_init 748 = .ok (.putfield 1001, 3) := by decide +kernel
theorem dX12_init_751 : decode cX12_init 751 = .ok (.aload_n 0, 1) := by decide +kernel
theorem dX12_init_752 : decode cX12_init 752 = .ok (.bipush 10, 2) := by decide +kernel
theorem dX12_init_754 : decode cX12_init 754 = .ok (.newarray .int, 2) := by decide +kernel
theorem dX12_init_756 : decode cX12_init 756 = .ok (.putfield 1016, 3) := by decide +kernel
theorem dX12_init_759 : decode cX12_init 759 = .ok (.aload_n 0, 1) := by decide +kernel
theorem dX12_init_760 : decode cX12_init 760 = .ok (.bipush 7, 2) := by decide +kernel
theorem dX12_init_762 : decode cX12_init 762 = .ok (.newarray .int, 2) := by decide +kernel
theorem dX12_init_764 : decode cX12_init 764 = .ok (.putfield 1004, 3) := by decide +kernel
theorem dX12_init_767 : decode cX12_init 767 = .ok (.aload_n 0, 1) := by decide +kernel
theorem dX12_init_768 : decode cX12_init 768 = .ok (.sipush 201, 3) := by decide +kernel
theorem dX12_init_771 : decode cX12_init 771 = .ok (.newarray .int, 2) := by decide +kernel
theorem dX12_init_773 : decode cX12_init 773 = .ok (.putfield 1066, 3) := by decide +kernel
theorem dX12_init_776 : decode cX12_init 776 = .ok (.aload_n 0, 1) := by decide +kernel
theorem dX12_init_777 : decode cX12_init 777 = .ok (.sipush 1608, 3) := by decide +kernel
theorem dX12_init_780 : decode cX12_init 780 = .ok (.newarray .int, 2) := by decide +kernel
theorem dX12_init_782 : decode cX12_init 782 = .ok (.putfield 1073, 3) := by decide +kernel
theorem dX12_init_785 : decode cX12_init 785 = .ok (.aload_n 0, 1) := by decide +kernel
theorem dX12_init_786 : decode cX12_init 786 = .ok (.sipush 201, 3) := by decide +kernel
theorem dX12_init_789 : decode cX12_init 789 = .ok (.newarray .int, 2) := by decide +kernel
theorem dX12_init_791 : decode cX12_init 791 = .ok (.putfield 1070, 3) := by decide +kernel
theorem dX12_init_794 : decode cX12_init 794 = .ok (.aload_n 0, 1) := by decide +kernel
theorem dX12_init_795 : decode cX12_init 795 = .ok (.sipush 1608, 3) := by decide +kernel
theorem dX12_init_798 : decode cX12_init 798 = .ok (.newarray .int, 2) := by decide +kernel
theorem dX12_init_800 : decode cX12_init 800 = .ok (.putfield 1079, 3) := by decide +kernel
theorem dX12_init_803 : decode cX12_init 803 = .ok (.aload_n 0, 1) := by decide +kernel
theorem dX12_init_804 : decode cX12_init 804 = .ok (.sipush 201, 3) := by decide +kernel
theorem dX12_init_807 : decode cX12_init 807 = .ok (.newarray .int, 2) := by decide +kernel
theorem dX12_init_809 : decode cX12_init 809 = .ok (.putfield 1076, 3) := by decide +kernel
theorem dX12_init_812 : decode cX12_init 812 = .ok (.aload_n 0, 1) := by decide +kernel
theorem dX12_init_813 : decode cX12_init 813 = .ok (.bipush 20, 2) := by decide +kernel
theorem dX12_init_815 : decode cX12_init 815 = .ok (.newarray .int, 2) := by decide +kernel
theorem dX12_init_817 : decode cX12_init 817 = .ok (.putfield 1136, 3) := by decide +kernel
theorem dX12_init_820 : decode cX12_init 820 = .ok (.aload_n 0, 1) := by decide +kernel
theorem dX12_init_821 : decode cX12_init 821 = .ok (.bipush 31, 2) := by decide +kernel
theorem dX12_init_823 : decode cX12_init 823 = .ok (.anewarray 1139, 3) := by decide +kernel
theorem dX12_init_826 : decode cX12_init 826 = .ok (.dup, 1) := by decide +kernel
theorem dX12_init_827 : decode cX12_init 827 = .ok (.iconst 0, 1) := by decide +kernel
theorem dX12_init_828 : decode cX12_init 828 = .ok (.aload_n 0, 1) := by decide +kernel
theorem dX12_init_829 : decode cX12_init 829 = .ok (.getfield 1136, 3) := by decide +kernel
theorem dX12_init_832 : decode cX12_init 832 = .ok (.aastore, 1) := by decide +kernel
theorem dX12_init_833 : decode cX12_init 833 = .ok (.dup, 1) := by decide +kernel
theorem dX12_init_834 : decode cX12_init 834 = .ok (.iconst 1, 1) := by decide +kernel
theorem dX12_init_835 : decode cX12_init 835 = .ok (.aload_n 0, 1) := by decide +kernel
theorem dX12_init_836 : decode cX12_init 836 = .ok (.getfield 597, 3) := by decide +kernel
theorem dX12_init_839 : decode cX12_init 839 = .ok (.aastore, 1) := by decide +kernel
theorem dX12_init_840 : decode cX12_init 840 = .ok (.dup, 1) := by decide +kernel
theorem dX12_init_841 : decode cX12_init 841 = .ok (.iconst 2, 1) := by decide +kernel
theorem dX12_init_842 : decode cX12_init 842 = .ok (.aload_n 0, 1) := by decide +kernel
theorem dX12_init_843 : decode cX12_init 843 = .ok (.getfield 822, 3) := by decide +kernel
theorem dX12_init_846 : decode cX12_init 846 = .ok (.aastore, 1) := by decide +kernel
theorem dX12_init_847 : decode cX12_init 847 = .ok (.dup, 1) := by decide +kernel
theorem dX12_init_848 : decode cX12_init 848 = .ok (.iconst 3, 1) := by decide +kernel
theorem dX12_init_849 : decode cX12_init 849 = .ok (.aload_n 0, 1) := by decide +kernel
theorem dX12_init_850 : decode cX12_init 850 = .ok (.getfield 600, 3) := by decide +kernel
theorem dX12_init_853 : decode cX12_init 853 = .ok (.aastore, 1) := by decide +kernel
theorem dX12_init_854 : decode cX12_init 854 = .ok (.dup, 1) := by decide +kernel
theorem dX12_init_855 : decode cX12_init 855 = .ok (.iconst 4, 1) := by decide +kernel
theorem dX12_init_856 : decode cX12_init 856 = .ok (.aload_n 0, 1) := by decide +kernel
theorem dX12_init_857 : decode cX12_init 857 = .ok (.getfield 639, 3) := by decide +kernel
theorem dX12_init_860 : decode cX12_init 860 = .ok (.aastore, 1) := by decide +kernel
theorem dX12_init_861 : decode cX12_init 861 = .ok (.dup, 1) := by decide +kernel
theorem dX12_init_862 : decode cX12_init 862 = .ok (.iconst 5, 1) := by decide +kernel
theorem dX12_init_863 : decode cX12_init 863 = .ok (.aload_n 0, 1) := by decide +kernel
theorem dX12_init_864 : decode cX12_init 864 = .ok (.getfield 642, 3) := by decide +kernel
theorem dX12_init_867 : decode cX12_init 867 = .ok (.aastore, 1) := by decide +kernel
theorem dX12_init_868 : decode cX12_init 868 = .ok (.dup, 1) := by decide +kernel
theorem dX12_init_869 : decode cX12_init 869 = .ok (.bipush 6, 2) := by decide +kernel
theorem dX12_init_871 : decode cX12_init 871 = .ok (.aload_n 0, 1) := by decide +kernel
theorem dX12_init_872 : decode cX12_init 872 = .ok (.getfield 645, 3) := by decide +kernel
theorem dX12_init_875 : decode cX12_init 875 = .ok (.aastore, 1) := by decide +kernel
theorem dX12_init_876 : decode cX12_init 876 = .ok (.dup, 1) := by decide +kernel
theorem dX12_init_877 : decode cX12_init 877 = .ok (.bipush 7, 2) := by decide +kernel
theorem dX12_init_879 : decode cX12_init 879 = .ok (.aload_n 0, 1) := by decide +kernel
theorem dX12_init_880 : decode cX12_init 880 = .ok (.getfield 657, 3) := by decide +kernel
theorem dX12_init_883 : decode cX12_init 883 = .ok (.aastore, 1) := by decide +kernel
theorem dX12_init_884 : decode cX12_init 884 = .ok (.dup, 1) := by decide +kernel
theorem dX12_init_885 : decode cX12_init 885 = .ok (.bipush 8, 2) := by decide +kernel
theorem dX12_init_887 : decode cX12_init 887 = .ok (.aload_n 0, 1) := by decide +kernel
theorem dX12_init_888 : decode cX12_init 888 = .ok (.getfield 660, 3) := by decide +kernel
theorem dX12_init_891 : decode cX12_init 891 = .ok (.aastore, 1) := by decide +kernel
theorem dX12_init_892 : decode cX12_init 892 = .ok (.dup, 1) := by decide +kernel
theorem dX12_init_893 : decode cX12_init 893 = .ok (.bipush 9, 2) := by decide +kernel
theorem dX12_init_895 : decode cX12_init 895 = .ok (.aload_n 0, 1) := by decide +kernel
theorem dX12_init_896 : decode cX12_init 896 = .ok (.getfield 663, 3) := by decide +kernel
theorem dX12_init_899 : decode cX12_init 899 = .ok (.aastore, 1) := by decide +kernel
theorem dX12_init_900 : decode cX12_init 900 = .ok (.dup, 1) := by decide +kernel
theorem dX12_init_901 : decode cX12_init 901 = .ok (.bipush 10, 2) := by decide +kernel
theorem dX12_init_903 : decode cX12_init 903 = .ok (.aload_n 0, 1) := by decide +kernel
theorem dX12_init_904 : decode cX12_init 904 = .ok (.getfield 666, 3) := by decide +kernel
theorem dX12_init_907 : decode cX12_init 907 = .ok (.aastore, 1) := by decide +kernel
theorem dX12_init_908 : decode cX12_init 908 = .ok (.dup, 1) := by decide +kernel
theorem dX12_init_909 : decode cX12_init 909 = .ok (.bipush 11, 2) := by decide +kernel
theorem dX12_init_911 : decode cX12_init 911 = .ok (.aload_n 0, 1) := by decide +kernel
theorem dX12_init_912 : decode cX12_init 912 = .ok (.getfield 669, 3) := by decide +kernel
theorem dX12_init_915 : decode cX12_init 915 = .ok (.aastore, 1) := by decide +kernel
theorem dX12_init_916 : decode cX12_init 916 = .ok (.dup, 1) := by decide +kernel
theorem dX12_init_917 : decode cX12_init 917 = .ok (.bipush 12, 2) := by decide +kernel
theorem dX12_init_919 : decode cX12_init 919 = .ok (.aload_n 0, 1) := by decide +kernel
theorem dX12_init_920 : decode cX12_init 920 = .ok (.getfield 651, 3) := by decide +kernel
theorem dX12_init_923 : decode cX12_init 923 = .ok (.aastore, 1) := by decide +kernel
theorem dX12_init_924 : decode cX12_init 924 = .ok (.dup, 1) := by decide +kernel
theorem dX12_init_925 : decode cX12_init 925 = .ok (.bipush 13, 2) := by decide +kernel
theorem dX12_init_927 : decode cX12_init 927 = .ok (.aload_n 0, 1) := by decide +kernel
theorem dX12_init_928 : decode cX12_init 928 = .ok (.getfield 756, 3) := by decide +kernel
theorem dX12_init_931 : decode cX12_init 931 = .ok (.aastore, 1) := by decide +kernel
theorem dX12_init_932 : decode cX12_init 932 = .ok (.dup, 1) := by decide +kernel
theorem dX12_init_933 : decode cX12_init 933 = .ok (.bipush 14, 2) := by decide +kernel
theorem dX12_init_935 : decode cX12_init 935 = .ok (.aload_n 0, 1) := by decide +kernel
theorem dX12_init_936 : decode cX12_init 936 = .ok (.getfield 679, 3) := by decide +kernel
theorem dX12_init_939 : decode cX12_init 939 = .ok (.aastore, 1) := by decide +kernel
theorem dX12_init_940 : decode cX12_init 940 = .ok (.dup, 1) := by decide +kernel
theorem dX12_init_941 : decode cX12_init 941 = .ok (.bipush 15, 2) := by decide +kernel
theorem dX12_init_943 : decode cX12_init 943 = .ok (.aload_n 0, 1) := by decide +kernel
theorem dX12_init_944 : decode cX12_init 944 = .ok (.getfield 682, 3) := by decide +kernel
theorem dX12_init_947 : decode cX12_init 947 = .ok (.aastore, 1) := by decide +kernel
theorem dX12_init_948 : decode cX12_init 948 = .ok (.dup, 1) := by decide +kernel
theorem dX12_init_949 : decode cX12_init 949 = .ok (.bipush 16, 2) := by decide +kernel
theorem dX12_init_951 : decode cX12_init 951 = .ok (.aload_n 0, 1) := by decide +kernel
theorem dX12_init_952 : decode cX12_init 952 = .ok (.getfield 685, 3) := by decide +kernel
theorem dX12_init_955 : decode cX12_init 955 = .ok (.aastore, 1) := by decide +kernel
theorem dX12_init_956 : decode cX12_init 956 = .ok (.dup, 1) := by decide +kernel
theorem dX12_init_957 : decode cX12_init 957 = .ok (.bipush 17, 2) := by decide +kernel
theorem dX12_init_959 : decode cX12_init 959 = .ok (.aload_n 0, 1) := by decide +kernel
theorem dX12_init_960 : decode cX12_init 960 = .ok (.getfield 688, 3) := by decide +kernel
theorem dX12_init_963 : decode cX12_init 963 = .ok (.aastore, 1) := by decide +kernel
theorem dX12_init_964 : decode cX12_init 964 = .ok (.dup, 1) := by decide +kernel
theorem dX12_init_965 : decode cX12_init 965 = .ok (.bipush 18, 2) := by decide +kernel
theorem dX12_init_967 : decode cX12_init 967 = .ok (.aload_n 0, 1) := by decide +kernel
theorem dX12_init_968 : decode cX12_init 968 = .ok (.getfield 721, 3) := by decide +kernel
theorem dX12_init_971 : decode cX12_init 971 = .ok (.aastore, 1) := by decide +kernel
theorem dX12_init_972 : decode cX12_init 972 = .ok (.dup, 1) := by decide +kernel
theorem dX12_init_973 : decode cX12_init 973 = .ok (.bipush 19, 2) := by decide +kernel
theorem dX12_init_975 : decode cX12_init 975 = .ok (.aload_n 0, 1) := by decide +kernel
theorem dX12_init_976 : decode cX12_init 976 = .ok (.getfield 724, 3) := by decide +kernel
theorem dX12_init_979 : decode cX12_init 979 = .ok (.aastore, 1) := by decide +kernel
theorem dX12_init_980 : decode cX12_init 980 = .ok (.dup, 1) := by decide +kernel
theorem dX12_init_981 : decode cX12_init 981 = .ok (.bipush 20, 2) := by decide +kernel
theorem dX12_init_983 : decode cX12_init 983 = .ok (.aload_n 0, 1) := by decide +kernel
theorem dX12_init_984 : decode cX12_init 984 = .ok (.getfield 727, 3) := by decide +kernel
theorem dX12_init_987 : decode cX12_init 987 = .ok (.aastore, 1) := by decide +kernel
theorem dX12_init_988 : decode cX12_init 988 = .ok (.dup, 1) := by decide +kernel
theorem dX12_init_989 : decode cX12_init 989 = .ok (.bipush 21, 2) := by decide +kernel
theorem dX12_init_991 : decode cX12_init 991 = .ok (.aload_n 0, 1) := by decide +kernel
theorem dX12_init_992 : decode cX12_init 992 = .ok (.getfield 694, 3) := by decide +kernel
theorem dX12_init_995 : decode cX12_init 995 = .ok (.aastore, 1) := by decide +kernel
theorem dX12_init_996 : decode cX12_init 996 = .ok (.dup, 1) := by decide +kernel
theorem dX12_init_997 : decode cX12_init 997 = .ok (.bipush 22, 2) := by decide +kernel
theorem dX12_init_999 : decode cX12_init 999 = .ok (.aload_n 0, 1) := by decide +kernel
theorem dX12_init_1000 : decode cX12_init 1000 = .ok (.getfield 733, 3) := by decide +kernel
theorem dX12_init_1003 : decode cX12_init 1003 = .ok (.aastore, 1) := by decide +kernel
theorem dX12_init_1004 : decode cX12_init 1004 = .ok (.dup, 1) := by decide +kernel
theorem dX12_init_1005 : decode cX12_init 1005 = .ok (.bipush 23, 2) := by decide +kernel
theorem dX12_init_1007 : decode cX12_init 1007 = .ok (.aload_n 0, 1) := by decide +kernel
theorem dX12_init_1008 : decode cX12_init 1008 = .ok (.getfield 736, 3) := by decide +kernel
theorem dX12_init_1011 : decode cX12_init 1011 = .ok (.aastore, 1) := by decide +kernel
theorem dX12_init_1012 : decode cX12_init 1012 = .ok (.dup, 1) := by decide +kernel
theorem dX12_init_1013 : decode cX12_init 1013 = .ok (.bipush 24, 2) := by decide +kernel
theorem dX12_init_1015 : decode cX12_init 1015 = .ok (.aload_n 0, 1) := by decide +kernel
theorem dX12_init_1016 : decode cX12_init 1016 = .ok (.getfield 739, 3) := by decide +kernel
theorem dX12_init_1019 : decode cX12_init 1019 = .ok (.aastore, 1) := by decide +kernel
theorem dX12_init_1020 : decode cX12_init 1020 = .ok (.dup, 1) := by decide +kernel
theorem dX12_init_1021 : decode cX12_init 1021 = .ok (.bipush 25, 2) := by decide +kernel
theorem dX12_init_1023 : decode cX12_init 1023 = .ok (.aload_n 0, 1) := by decide +kernel
theorem dX12_init_1024 : decode cX12_init 1024 = .ok (.getfield 742, 3) := by decide +kernel
theorem dX12_init_1027 : decode cX12_init 1027 = .ok (.aastore, 1) := by decide +kernel
theorem dX12_init_1028 : decode cX12_init 1028 = .ok (.dup, 1) := by decide +kernel
theorem dX12_init_1029 : decode cX12_init 1029 = .ok (.bipush 26, 2) := by decide +kernel
theorem dX12_init_1031 : decode cX12_init 1031 = .ok (.aload_n 0, 1) := by decide +kernel
theorem dX12_init_1032 : decode cX12_init 1032 = .ok (.getfield 700, 3) := by decide +kernel
theorem dX12_init_1035 : decode cX12_init 1035 = .ok (.aastore, 1) := by decide +kernel
theorem dX12_init_1036 : decode cX12_init 1036 = .ok (.dup, 1) := by decide +kernel
theorem dX12_init_1037 : decode cX12_init 1037 = .ok (.bipush 27, 2) := by decide +kernel
theorem dX12_init_1039 : decode cX12_init 1039 = .ok (.aload_n 0, 1) := by decide +kernel
theorem dX12_init_1040 : decode cX12_init 1040 = .ok (.getfield 712, 3) := by decide +kernel
theorem dX12_init_1043 : decode cX12_init 1043 = .ok (.aastore, 1) := by decide +kernel
theorem dX12_init_1044 : decode cX12_init 1044 = .ok (.dup, 1) := by decide +kernel
theorem dX12_init_1045 : decode cX12_init 1045 = .ok (.bipush 28, 2) := by decide +kernel
theorem dX12_init_1047 : decode cX12_init 1047 = .ok (.aload_n 0, 1) := by decide +kernel
theorem dX12_init_1048 : decode cX12_init 1048 = .ok (.getfield 715, 3) := by decide +kernel
theorem dX12_init_1051 : decode cX12_init 1051 = .ok (.aastore, 1) := by decide +kernel
theorem dX12_init_1052 : decode cX12_init 1052 = .ok (.dup, 1) := by decide +kernel
theorem dX12_init_1053 : decode cX12_init 1053 = .ok (.bipush 29, 2) := by decide +kernel
theorem dX12_init_1055 : decode cX12_init 1055 = .ok (.aload_n 0, 1) := by decide +kernel
theorem dX12_init_1056 : decode cX12_init 1056 = .ok (.getfield 709, 3) := by decide +kernel
theorem dX12_init_1059 : decode cX12_init 1059 = .ok (.aastore, 1) := by decide +kernel
theorem dX12_init_1060 : decode cX12_init 1060 = .ok (.dup, 1) := by decide +kernel
theorem dX12_init_1061 : decode cX12_init 1061 = .ok (.bipush 30, 2) := by decide +kernel
theorem dX12_init_1063 : decode cX12_init 1063 = .ok (.aload_n 0, 1) := by decide +kernel
theorem dX12_init_1064 : decode cX12_init 1064 = .ok (.getfield 819, 3) := by decide +kernel
theorem dX12_init_1067 : decode cX12_init 1067 = .ok (.aastore, 1) := by decide +kernel
theorem dX12_init_1068 : decode cX12_init 1068 = .ok (.putfield 1140, 3) := by decide +kernel
theorem dX12_init_1071 : decode cX12_init 1071 = .ok (.aload_n 0, 1) := by decide +kernel
theorem dX12_init_1072 : decode cX12_init 1072 = .ok (.aload_n 0, 1) := by decide +kernel
theorem dX12_init_1073 : decode cX12_init 1073 = .ok (.getfield 1140, 3) := by decide +kernel
theorem dX12_init_1076 : decode cX12_init 1076 = .ok (.arraylength, 1) := by decide +kernel
theorem dX12_init_1077 : decode cX12_init 1077 = .ok (.anewarray 1139, 3) := by decide +kernel
theorem dX12_init_1080 : decode cX12_init 1080 = .ok (.putfield 1144, 3) := by decide +kernel
theorem dX12_init_1083 : decode cX12_init 1083 = .ok (.aload_n 0, 1) := by decide +kernel
theorem dX12_init_1084 : decode cX12_init 1084 = .ok (.bipush 8, 2) := by decide +kernel
theorem dX12_init_1086 : decode cX12_init 1086 = .ok (.newarray .long, 2) := by decide +kernel
theorem dX12_init_1088 : decode cX12_init 1088 = .ok (.putfield 1147, 3) := by decide +kernel
theorem dX12_init_1091 : decode cX12_init 1091 = .ok (.aload_n 0, 1) := by decide +kernel
theorem dX12_init_1092 : decode cX12_init 1092 = .ok (.sipush 201, 3) := by decide +kernel
theorem dX12_init_1095 : decode cX12_init 1095 = .ok (.newarray .boolean, 2) := by decide +kernel
theorem dX12_init_1097 : decode cX12_init 1097 = .ok (.putfield 1150, 3) := by decide +kernel
theorem dX12_init_1100 : decode cX12_init 1100 = .ok (.aload_n 0, 1) := by decide +kernel
theorem dX12_init_1101 : decode cX12_init 1101 = .ok (.sipush 8040, 3) := by decide +kernel
theorem dX12_init_1104 : decode cX12_init 1104 = .ok (.newarray .byte, 2) := by decide +kernel
theorem dX12_init_1106 : decode cX12_init 1106 = .ok (.putfield 1153, 3) := by decide +kernel
theorem dX12_init_1109 : decode cX12_init 1109 = .ok (.aload_n 0, 1) := by decide +kernel
theorem dX12_init_1110 : decode cX12_init 1110 = .ok (.sipush 2004, 3) := by decide +kernel
theorem dX12_init_1113 : decode cX12_init 1113 = .ok (.newarray .byte, 2) := by decide +kernel
theorem dX12_init_1115 : decode cX12_init 1115 = .ok (.putfield 1156, 3) := by decide +kernel
theorem dX12_init_1118 : decode cX12_init 1118 = .ok (.aload_n 0, 1) := by decide +kernel
theorem dX12_init_1119 : decode cX12_init 1119 = .ok (.iconst (-1), 1) := by decide +kernel
theorem dX12_init_1120 : decode cX12_init 1120 = .ok (.putfield 1159, 3) := by decide +kernel
theorem dX12_init_1123 : decode cX12_init 1123 = .ok (.aload_n 0, 1) := by decide +kernel
theorem dX12_init_1124 : decode cX12_init 1124 = .ok (.iconst (-1), 1) := by decide +kernel
theorem dX12_init_1125 : decode cX12_init 1125 = .ok (.putfield 1162, 3) := by decide +kernel
theorem dX12_init_1128 : decode cX12_init 1128 = .ok (.aload_n 0, 1) := by decide +kernel
theorem dX12_init_1129 : decode cX12_init 1129 = .ok (.iconst (-1), 1) := by decide +kernel
theorem dX12_init_1130 : decode cX12_init 1130 = .ok (.putfield 1165, 3) := by decide +kernel
theorem dX12_init_1133 : decode cX12_init 1133 = .ok (.iconst 0, 1) := by decide +kernel
theorem dX12_init_1134 : decode cX12_init 1134 = .ok (.istore_n 1, 1) := by decide +kernel
theorem dX12_init_1135 : decode cX12_init 1135 = .ok (.iload_n 1, 1) := by decide +kernel
theorem dX12_init_1136 : decode cX12_init 1136 = .ok (.aload_n 0, 1) := by decide +kernel
theorem dX12_init_1137 : decode cX12_init 1137 = .ok (.getfield 1140, 3) := by decide +kernel
theorem dX12_init_1140 : decode cX12_init 1140 = .ok (.arraylength, 1) := by decide +kernel
theorem dX12_init_1141 : decode cX12_init 1141 = .ok (.if_icmp .ge 24, 3) := by decide +kernel
theorem dX12_init_1144 : decode cX12_init 1144 = .ok (.aload_n 0, 1) := by decide +kernel
theorem dX12_init_1145 : decode cX12_init 1145 = .ok (.getfield 1144, 3) := by decide +kernel
theorem dX12_init_1148 : decode cX12_init 1148 = .ok (.iload_n 1, 1) := by decide +kernel
theorem dX12_init_1149 : decode cX12_init 1149 = .ok (.aload_n 0, 1) := by decide +kernel
theorem dX12_init_1150 : decode cX12_init 1150 = .ok (.getfield 1140, 3) := by decide +kernel
theorem dX12_init_1153 : decode cX12_init 1153 = .ok (.iload_n 1, 1) := by decide +kernel
theorem dX12_init_1154 : decode cX12_init 1154 = .ok (.aaload, 1) := by decide +kernel
theorem dX12_init_1155 : decode cX12_init 1155 = .ok (.arraylength, 1) := by decide +kernel
theorem dX12_init_1156 : decode cX12_init 1156 = .ok (.newarray .int, 2) := by decide +kernel
theorem dX12_init_1158 : decode cX12_init 1158 = .ok (.aastore, 1) := by decide +kernel
theorem dX12_init_1159 : decode cX12_init 1159 = .ok (.iinc 1 1, 3) := by decide +kernel
theorem dX12_init_1162 : decode cX12_init 1162 = .ok (.goto (-27), 3) := by decide +kernel
theorem dX12_init_1165 : decode cX12_init 1165 = .ok (.aload_n 0, 1) := by decide +kernel
theorem dX12_init_1166 : decode cX12_init 1166 = .ok (.iconst 0, 1) := by decide +kernel
theorem dX12_init_1167 : decode cX12_init 1167 = .ok (.putfield 18, 3) := by decide +kernel
theorem dX12_init_1170 : decode cX12_init 1170 = .ok (.return_, 1) := by decide +kernel
theorem dX12_isFramed_0 : decode cX12_isFramed 0 = .ok (.aload_n 0, 1) := by decide +kernel
theorem dX12_isFramed_1 : decode cX12_isFramed 1 = .ok (.getfield 1004, 3) := by decide +kernel
theorem dX12_isFramed_4 : decode cX12_isFramed 4 = .ok (.astore_n 1, 1) := by decide +kernel
theorem dX12_isFramed_5 : decode cX12_isFramed 5 = .ok (.aload_n 1, 1) := by decide +kernel
theorem dX12_isFramed_6 : decode cX12_isFramed 6 = .ok (.iconst 0, 1) := by decide +kernel
theorem dX12_isFramed_7 : decode cX12_isFramed 7 = .ok (.bipush 70, 2) := by decide +kernel
theorem dX12_isFramed_9 : decode cX12_isFramed 9 = .ok (.iastore, 1) := by decide +kernel
theorem dX12_isFramed_10 : decode cX12_isFramed 10 = .ok (.aload_n 1, 1) := by decide +kernel
theorem dX12_isFramed_11 : decode cX12_isFramed 11 = .ok (.iconst 1, 1) := by decide +kernel
theorem dX12_isFramed_12 : decode cX12_isFramed 12 = .ok (.bipush 82, 2) := by decide +kernel
theorem dX12_isFramed_14 : decode cX12_isFramed 14 = .ok (.iastore, 1) := by decide +kernel
theorem dX12_isFramed_15 : decode cX12_isFramed 15 = .ok (.aload_n 1, 1) := by decide +kernel
theorem dX12_isFramed_16 : decode cX12_isFramed 16 = .ok (.iconst 2, 1) := by decide +kernel
theorem dX12_isFramed_17 : decode cX12_isFramed 17 = .ok (.iconst 1, 1) := by decide +kernel
theorem dX12_isFramed_18 : decode cX12_isFramed 18 = .ok (.iastore, 1) := by decide +kernel
theorem dX12_isFramed_19 : decode cX12_isFramed 19 = .ok (.iconst 0, 1) := by decide +kernel
theorem dX12_isFramed_20 : decode cX12_isFramed 20 = .ok (.istore_n 2, 1) := by decide +kernel
theorem dX12_isFramed_21 : decode cX12_isFramed 21 = .ok (.iload_n 2, 1) := by decide +kernel
theorem dX12_isFramed_22 : decode cX12_isFramed 22 = .ok (.iconst 4, 1) := by decide +kernel
theorem dX12_isFramed_23 : decode cX12_isFramed 23 = .ok (.if_icmp .ge 30, 3) := by decide +kernel
theorem dX12_isFramed_26 : decode cX12_isFramed 26 = .ok (.aload_n 1, 1) := by decide +kernel
theorem dX12_isFramed_27 : decode cX12_isFramed 27 = .ok (.iconst 3, 1) := by decide +kernel
theorem dX12_isFramed_28 : decode cX12_isFramed 28 = .ok (.iload_n 2, 1) := by decide +kernel
theorem dX12_isFramed_29 : decode cX12_isFramed 29 = .ok (.iadd, 1) := by decide +kernel
theorem dX12_isFramed_30 : decode cX12_isFramed 30 = .ok (.aload_n 0, 1) := by decide +kernel
theorem dX12_isFramed_31 : decode cX12_isFramed 31 = .ok (.getfield 1007, 3) := by decide +kernel
theorem dX12_isFramed_34 : decode cX12_isFramed 34 = .ok (.bipush 24, 2) := by decide +kernel
theorem dX12_isFramed_36 : decode cX12_isFramed 36 = .ok (.bipush 8, 2) := by decide +kernel
theorem dX12_isFramed_38 : decode cX12_isFramed 38 = .ok (.iload_n 2, 1) := by decide +kernel
theorem dX12_isFramed_39 : decode cX12_isFramed 39 = .ok (.imul, 1) := by decide +kernel
theorem dX12_isFramed_40 : decode cX12_isFramed 40 = .ok (.isub, 1) := by decide +kernel
theorem dX12_isFramed_41 : decode cX12_isFramed 41 = .ok (.ishr, 1) := by decide +kernel
theorem dX12_isFramed_42 : decode cX12_isFramed 42 = .ok (.sipush 255, 3) := by decide +kernel
theorem dX12_isFramed_45 : decode cX12_isFramed 45 = .ok (.iand, 1) := by decide +kernel
theorem dX12_isFramed_46 : decode cX12_isFramed 46 = .ok (.iastore, 1) := by decide +kernel
theorem dX12_isFramed_47 : decode cX12_isFramed 47 = .ok (.iinc 2 1, 3) := by decide +kernel
theorem dX12_isFramed_50 : decode cX12_isFramed 50 = .ok (.goto (-29), 3) := by decide +kernel
theorem dX12_isFramed_53 : decode cX12_isFramed 53 = .ok (.iconst 0, 1) := by decide +kernel
theorem dX12_isFramed_54 : decode cX12_isFramed 54 = .ok (.istore_n 2, 1) := by decide +kernel
theorem dX12_isFramed_55 : decode cX12_isFramed 55 = .ok (.iload_n 2, 1) := by decide +kernel
theorem dX12_isFramed_56 : decode cX12_isFramed 56 = .ok (.bipush 7, 2) := by decide +kernel
theorem dX12_isFramed_58 : decode cX12_isFramed 58 = .ok (.if_icmp .ge 44, 3) := by decide +kernel
theorem dX12_isFramed_61 : decode cX12_isFramed 61 = .ok (.iload_n 2, 1) := by decide +kernel
theorem dX12_isFramed_62 : decode cX12_isFramed 62 = .ok (.aload_n 0, 1) := by decide +kernel
theorem dX12_isFramed_63 : decode cX12_isFramed 63 = .ok (.getfield 1007, 3) := by decide +kernel
theorem dX12_isFramed_66 : decode cX12_isFramed 66 = .ok (.if_icmp .ge 36, 3) := by decide +kernel
theorem dX12_isFramed_102 : decode cX12_isFramed 102 = .ok (.aload_n 0, 1) := by decide +kernel
theorem dX12_isFramed_103 : decode cX12_isFramed 103 = .ok (.getfield 1007, 3) := by decide +kernel
theorem dX12_isFramed_106 : decode cX12_isFramed 106 = .ok (.bipush 11, 2) := by decide +kernel
theorem dX12_isFramed_108 : decode cX12_isFramed 108 = .ok (.if_icmp .ge 13, 3) := by decide +kernel
theorem dX12_isFramed_111 : decode cX12_isFramed 111 = .ok (.aload_n 0, 1) := by decide +kernel
theorem dX12_isFramed_112 : decode cX12_isFramed 112 = .ok (.iconst 1, 1) := by decide +kernel
theorem dX12_isFramed_113 : decode cX12_isFramed 113 = .ok (.aload_n 0, 1) := by decide +kernel
theorem dX12_isFramed_114 : decode cX12_isFramed 114 = .ok (.getfield 1007, 3) := by decide +kernel
theorem dX12_isFramed_117 : decode cX12_isFramed 117 = .ok (.invokevirtual 1010, 3) := by decide +kernel
theorem dX12_isFramed_120 : decode cX12_isFramed 120 = .ok (.ireturn, 1) := by decide +kernel
theorem dX12_isWord_0 : decode cX12_isWord 0 = .ok (.aload_n 0, 1) := by decide +kernel
theorem dX12_isWord_1 : decode cX12_isWord 1 = .ok (.getfield 49, 3) := by decide +kernel
theorem dX12_isWord_4 : decode cX12_isWord 4 = .ok (.aload_n 0, 1) := by decide +kernel
theorem dX12_isWord_5 : decode cX12_isWord 5 = .ok (.getfield 101, 3) := by decide +kernel
theorem dX12_isWord_8 : decode cX12_isWord 8 = .ok (.iaload, 1) := by decide +kernel
theorem dX12_isWord_9 : decode cX12_isWord 9 = .ok (.iconst 5, 1) := by decide +kernel
theorem dX12_isWord_10 : decode cX12_isWord 10 = .ok (.if_icmp .ne 20, 3) := by decide +kernel
theorem dX12_isWord_30 : decode cX12_isWord 30 = .ok (.iconst 0, 1) := by decide +kernel
theorem dX12_isWord_31 : decode cX12_isWord 31 = .ok (.ireturn, 1) := by decide +kernel
theorem dX12_klass_0 : decode cX12_klass 0 = .ok (.aload_n 0, 1) := by decide +kernel
theorem dX12_klass_1 : decode cX12_klass 1 = .ok (.getfield 566, 3) := by decide +kernel
theorem dX12_klass_4 : decode cX12_klass 4 = .ok (.ifCond .ne 5, 3) := by decide +kernel
theorem dX12_klass_7 : decode cX12_klass 7 = .ok (.iconst (-1), 1) := by decide +kernel
theorem dX12_klass_8 : decode cX12_klass 8 = .ok (.ireturn, 1) := by decide +kernel
theorem dX12_load_0 : decode cX12_load 0 = .ok (.aload_n 0, 1) := by decide +kernel
theorem dX12_load_1 : decode cX12_load 1 = .ok (.getfield 1007, 3) := by decide +kernel
theorem dX12_load_4 : decode cX12_load 4 = .ok (.istore_n 2, 1) := by decide +kernel
theorem dX12_load_5 : decode cX12_load 5 = .ok (.aload_n 0, 1) := by decide +kernel
theorem dX12_load_6 : decode cX12_load 6 = .ok (.iconst 0, 1) := by decide +kernel
theorem dX12_load_7 : decode cX12_load 7 = .ok (.putfield 1007, 3) := by decide +kernel
theorem dX12_load_10 : decode cX12_load 10 = .ok (.iload_n 1, 1) := by decide +kernel
theorem dX12_load_11 : decode cX12_load 11 = .ok (.iconst 1, 1) := by decide +kernel
theorem dX12_load_12 : decode cX12_load 12 = .ok (.if_icmp .lt 9, 3) := by decide +kernel
theorem dX12_load_15 : decode cX12_load 15 = .ok (.iload_n 1, 1) := by decide +kernel
theorem dX12_load_16 : decode cX12_load 16 = .ok (.bipush 50, 2) := by decide +kernel
theorem dX12_load_18 : decode cX12_load 18 = .ok (.if_icmp .le 5, 3) := by decide +kernel
theorem dX12_load_21 : decode cX12_load 21 = .ok (.iconst (-1), 1) := by decide +kernel
theorem dX12_load_22 : decode cX12_load 22 = .ok (.ireturn, 1) := by decide +kernel
theorem dX12_load_23 : decode cX12_load 23 = .ok (.aload_n 0, 1) := by decide +kernel
theorem dX12_load_24 : decode cX12_load 24 = .ok (.iconst 0, 1) := by decide +kernel
theorem dX12_load_25 : decode cX12_load 25 = .ok (.iload_n 2, 1) := by decide +kernel
theorem dX12_load_26 : decode cX12_load 26 = .ok (.invokevirtual 1192, 3) := by decide +kernel
theorem dX12_load_29 : decode cX12_load 29 = .ok (.ifCond .ne 21, 3) := by decide +kernel
theorem dX12_load_32 : decode cX12_load 32 = .ok (.aload_n 0, 1) := by decide +kernel
theorem dX12_load_33 : decode cX12_load 33 = .ok (.aload_n 0, 1) := by decide +kernel
theorem dX12_load_34 : decode cX12_load 34 = .ok (.getfield 1183, 3) := by decide +kernel
theorem dX12_load_37 : decode cX12_load 37 = .ok (.putfield 1162, 3) := by decide +kernel
theorem dX12_load_40 : decode cX12_load 40 = .ok (.aload_n 0, 1) := by decide +kernel
theorem dX12_load_41 : decode cX12_load 41 = .ok (.aload_n 0, 1) := by decide +kernel
theorem dX12_load_42 : decode cX12_load 42 = .ok (.getfield 1186, 3) := by decide +kernel
theorem dX12_load_45 : decode cX12_load 45 = .ok (.putfield 1165, 3) := by decide +kernel
theorem dX12_load_48 : decode cX12_load 48 = .ok (.iconst (-1), 1) := by decide +kernel
theorem dX12_load_49 : decode cX12_load 49 = .ok (.ireturn, 1) := by decide +kernel
theorem dX12_method__0 : decode cX12_method_ 0 = .ok (.aload_n 0, 1) := by decide +kernel
theorem dX12_method__1 : decode cX12_method_ 1 = .ok (.getfield 566, 3) := by decide +kernel
theorem dX12_method__4 : decode cX12_method_ 4 = .ok (.ifCond .eq 20, 3) := by decide +kernel
theorem dX12_method__24 : decode cX12_method_ 24 = .ok (.iconst (-1), 1) := by decide +kernel
theorem dX12_method__25 : decode cX12_method_ 25 = .ok (.ireturn, 1) := by decide +kernel
theorem dX12_need_0 : decode cX12_need 0 = .ok (.aload_n 0, 1) := by decide +kernel
theorem dX12_need_1 : decode cX12_need 1 = .ok (.invokevirtual 104, 3) := by decide +kernel
theorem dX12_need_4 : decode cX12_need 4 = .ok (.ifCond .eq 15, 3) := by decide +kernel
theorem dX12_need_19 : decode cX12_need 19 = .ok (.aload_n 0, 1) := by decide +kernel
theorem dX12_need_20 : decode cX12_need 20 = .ok (.invokevirtual 115, 3) := by decide +kernel
theorem dX12_need_23 : decode cX12_need 23 = .ok (.return_, 1) := by decide +kernel
theorem dX12_needClose_0 : decode cX12_needClose 0 = .ok (.aload_n 0, 1) := by decide +kernel
theorem dX12_needClose_1 : decode cX12_needClose 1 = .ok (.invokevirtual 124, 3) := by decide +kernel
theorem dX12_needClose_4 : decode cX12_needClose 4 = .ok (.aload_n 0, 1) := by decide +kernel
theorem dX12_needClose_5 : decode cX12_needClose 5 = .ok (.iload_n 1, 1) := by decide +kernel
theorem dX12_needClose_6 : decode cX12_needClose 6 = .ok (.invokevirtual 127, 3) := by decide +kernel
theorem dX12_needClose_9 : decode cX12_needClose 9 = .ok (.return_, 1) := by decide +kernel
theorem dX12_needName_0 : decode cX12_needName 0 = .ok (.aload_n 0, 1) := by decide +kernel
theorem dX12_needName_1 : decode cX12_needName 1 = .ok (.invokevirtual 104, 3) := by decide +kernel
theorem dX12_needName_4 : decode cX12_needName 4 = .ok (.ifCond .eq 20, 3) := by decide +kernel
theorem dX12_needName_24 : decode cX12_needName 24 = .ok (.aload_n 0, 1) := by decide +kernel
theorem dX12_needName_25 : decode cX12_needName 25 = .ok (.getfield 101, 3) := by decide +kernel
theorem dX12_needName_28 : decode cX12_needName 28 = .ok (.istore_n 1, 1) := by decide +kernel
theorem dX12_needName_29 : decode cX12_needName 29 = .ok (.aload_n 0, 1) := by decide +kernel
theorem dX12_needName_30 : decode cX12_needName 30 = .ok (.invokevirtual 115, 3) := by decide +kernel
theorem dX12_needName_33 : decode cX12_needName 33 = .ok (.iload_n 1, 1) := by decide +kernel
theorem dX12_needName_34 : decode cX12_needName 34 = .ok (.ireturn, 1) := by decide +kernel
theorem dX12_needOpen_0 : decode cX12_needOpen 0 = .ok (.aload_n 0, 1) := by decide +kernel
theorem dX12_needOpen_1 : decode cX12_needOpen 1 = .ok (.invokevirtual 104, 3) := by decide +kernel
theorem dX12_needOpen_4 : decode cX12_needOpen 4 = .ok (.ifCond .eq 15, 3) := by decide +kernel
theorem dX12_needOpen_19 : decode cX12_needOpen 19 = .ok (.aload_n 0, 1) := by decide +kernel
theorem dX12_needOpen_20 : decode cX12_needOpen 20 = .ok (.invokevirtual 121, 3) := by decide +kernel
theorem dX12_needOpen_23 : decode cX12_needOpen 23 = .ok (.aload_n 0, 1) := by decide +kernel
theorem dX12_needOpen_24 : decode cX12_needOpen 24 = .ok (.invokevirtual 115, 3) := by decide +kernel
theorem dX12_needOpen_27 : decode cX12_needOpen 27 = .ok (.return_, 1) := by decide +kernel
theorem dX12_next_0 : decode cX12_next 0 = .ok (.aload_n 0, 1) := by decide +kernel
theorem dX12_next_1 : decode cX12_next 1 = .ok (.invokevirtual 104, 3) := by decide +kernel
theorem dX12_next_4 : decode cX12_next 4 = .ok (.ifCond .eq 13, 3) := by decide +kernel
theorem dX12_next_17 : decode cX12_next 17 = .ok (.return_, 1) := by decide +kernel
theorem dX12_no_0 : decode cX12_no 0 = .ok (.aload_n 0, 1) := by decide +kernel
theorem dX12_no_1 : decode cX12_no 1 = .ok (.getfield 998, 3) := by decide +kernel
theorem dX12_no_4 : decode cX12_no 4 = .ok (.ifCond .ne 13, 3) := by decide +kernel
theorem dX12_no_7 : decode cX12_no 7 = .ok (.aload_n 0, 1) := by decide +kernel
theorem dX12_no_8 : decode cX12_no 8 = .ok (.iload_n 1, 1) := by decide +kernel
theorem dX12_no_9 : decode cX12_no 9 = .ok (.putfield 998, 3) := by decide +kernel
theorem dX12_no_12 : decode cX12_no 12 = .ok (.aload_n 0, 1) := by decide +kernel
theorem dX12_no_13 : decode cX12_no 13 = .ok (.iload_n 2, 1) := by decide +kernel
theorem dX12_no_14 : decode cX12_no 14 = .ok (.putfield 1001, 3) := by decide +kernel
theorem dX12_no_17 : decode cX12_no 17 = .ok (.iconst 0, 1) := by decide +kernel
theorem dX12_no_18 : decode cX12_no 18 = .ok (.ireturn, 1) := by decide +kernel
theorem dX12_open_0 : decode cX12_open 0 = .ok (.aload_n 0, 1) := by decide +kernel
theorem dX12_open_1 : decode cX12_open 1 = .ok (.getfield 118, 3) := by decide +kernel
theorem dX12_open_4 : decode cX12_open 4 = .ok (.bipush 20, 2) := by decide +kernel
theorem dX12_open_6 : decode cX12_open 6 = .ok (.if_icmp .ne 7, 3) := by decide +kernel
theorem dX12_open_13 : decode cX12_open 13 = .ok (.aload_n 0, 1) := by decide +kernel
theorem dX12_open_14 : decode cX12_open 14 = .ok (.dup, 1) := by decide +kernel
theorem dX12_open_15 : decode cX12_open 15 = .ok (.getfield 118, 3) := by decide +kernel
theorem dX12_open_18 : decode cX12_open 18 = .ok (.iconst 1, 1) := by decide +kernel
theorem dX12_open_19 : decode cX12_open 19 = .ok (.iadd, 1) := by decide +kernel
theorem dX12_open_20 : decode cX12_open 20 = .ok (.putfield 118, 3) := by decide +kernel
theorem dX12_open_23 : decode cX12_open 23 = .ok (.return_, 1) := by decide +kernel
theorem dX12_out_0 : decode cX12_out 0 = .ok (.aload_n 0, 1) := by decide +kernel
theorem dX12_out_1 : decode cX12_out 1 = .ok (.getfield 566, 3) := by decide +kernel
theorem dX12_out_4 : decode cX12_out 4 = .ok (.ifCond .le 30, 3) := by decide +kernel
theorem dX12_out_34 : decode cX12_out 34 = .ok (.iconst (-1), 1) := by decide +kernel
theorem dX12_out_35 : decode cX12_out 35 = .ok (.ireturn, 1) := by decide +kernel
theorem dX12_patch_0 : decode cX12_patch 0 = .ok (.iload_n 1, 1) := by decide +kernel
theorem dX12_patch_1 : decode cX12_patch 1 = .ok (.ifCond .lt 11, 3) := by decide +kernel
theorem dX12_patch_4 : decode cX12_patch 4 = .ok (.iload_n 1, 1) := by decide +kernel
theorem dX12_patch_5 : decode cX12_patch 5 = .ok (.aload_n 0, 1) := by decide +kernel
theorem dX12_patch_6 : decode cX12_patch 6 = .ok (.getfield 1007, 3) := by decide +kernel
theorem dX12_patch_9 : decode cX12_patch 9 = .ok (.if_icmp .lt 5, 3) := by decide +kernel
theorem dX12_patch_12 : decode cX12_patch 12 = .ok (.iconst 0, 1) := by decide +kernel
theorem dX12_patch_13 : decode cX12_patch 13 = .ok (.ireturn, 1) := by decide +kernel
theorem dX12_program_0 : decode cX12_program 0 = .ok (.aload_n 0, 1) := by decide +kernel
theorem dX12_program_1 : decode cX12_program 1 = .ok (.iconst 0, 1) := by decide +kernel
theorem dX12_program_2 : decode cX12_program 2 = .ok (.putfield 101, 3) := by decide +kernel
theorem dX12_program_5 : decode cX12_program 5 = .ok (.aload_n 0, 1) := by decide +kernel
theorem dX12_program_6 : decode cX12_program 6 = .ok (.iconst 0, 1) := by decide +kernel
theorem dX12_program_7 : decode cX12_program 7 = .ok (.putfield 118, 3) := by decide +kernel
theorem dX12_program_10 : decode cX12_program 10 = .ok (.aload_n 0, 1) := by decide +kernel
theorem dX12_program_11 : decode cX12_program 11 = .ok (.iconst 0, 1) := by decide +kernel
theorem dX12_program_12 : decode cX12_program 12 = .ok (.putfield 7, 3) := by decide +kernel
theorem dX12_program_15 : decode cX12_program 15 = .ok (.aload_n 0, 1) := by decide +kernel
theorem dX12_program_16 : decode cX12_program 16 = .ok (.iconst 0, 1) := by decide +kernel
theorem dX12_program_17 : decode cX12_program 17 = .ok (.putfield 131, 3) := by decide +kernel
theorem dX12_program_20 : decode cX12_program 20 = .ok (.aload_n 0, 1) := by decide +kernel
theorem dX12_program_21 : decode cX12_program 21 = .ok (.iconst 0, 1) := by decide +kernel
theorem dX12_program_22 : decode cX12_program 22 = .ok (.putfield 134, 3) := by decide +kernel
theorem dX12_program_25 : decode cX12_program 25 = .ok (.aload_n 0, 1) := by decide +kernel
theorem dX12_program_26 : decode cX12_program 26 = .ok (.iconst 0, 1) := by decide +kernel
theorem dX12_program_27 : decode cX12_program 27 = .ok (.putfield 137, 3) := by decide +kernel
theorem dX12_program_30 : decode cX12_program 30 = .ok (.aload_n 0, 1) := by decide +kernel
theorem dX12_program_31 : decode cX12_program 31 = .ok (.iconst 0, 1) := by decide +kernel
theorem dX12_program_32 : decode cX12_program 32 = .ok (.putfield 140, 3) := by decide +kernel
theorem dX12_program_35 : decode cX12_program 35 = .ok (.aload_n 0, 1) := by decide +kernel
theorem dX12_program_36 : decode cX12_program 36 = .ok (.iconst 0, 1) := by decide +kernel
theorem dX12_program_37 : decode cX12_program 37 = .ok (.putfield 143, 3) := by decide +kernel
theorem dX12_program_40 : decode cX12_program 40 = .ok (.iconst 1, 1) := by decide +kernel
theorem dX12_program_41 : decode cX12_program 41 = .ok (.istore_n 1, 1) := by decide +kernel
theorem dX12_program_42 : decode cX12_program 42 = .ok (.iload_n 1, 1) := by decide +kernel
theorem dX12_program_43 : decode cX12_program 43 = .ok (.ifCond .eq 64, 3) := by decide +kernel
theorem dX12_program_46 : decode cX12_program 46 = .ok (.aload_n 0, 1) := by decide +kernel
theorem dX12_program_47 : decode cX12_program 47 = .ok (.invokevirtual 146, 3) := by decide +kernel
theorem dX12_program_50 : decode cX12_program 50 = .ok (.aload_n 0, 1) := by decide +kernel
theorem dX12_program_51 : decode cX12_program 51 = .ok (.invokevirtual 104, 3) := by decide +kernel
theorem dX12_program_54 : decode cX12_program 54 = .ok (.ifCond .eq 19, 3) := by decide +kernel
theorem dX12_program_73 : decode cX12_program 73 = .ok (.aload_n 0, 1) := by decide +kernel
theorem dX12_program_74 : decode cX12_program 74 = .ok (.bipush 125, 2) := by decide +kernel
theorem dX12_program_76 : decode cX12_program 76 = .ok (.invokevirtual 152, 3) := by decide +kernel
theorem dX12_program_79 : decode cX12_program 79 = .ok (.aload_n 0, 1) := by decide +kernel
theorem dX12_program_80 : decode cX12_program 80 = .ok (.invokevirtual 104, 3) := by decide +kernel
theorem dX12_program_83 : decode cX12_program 83 = .ok (.ifCond .eq 19, 3) := by decide +kernel
theorem dX12_program_102 : decode cX12_program 102 = .ok (.iconst 0, 1) := by decide +kernel
theorem dX12_program_103 : decode cX12_program 103 = .ok (.istore_n 1, 1) := by decide +kernel
theorem dX12_program_104 : decode cX12_program 104 = .ok (.goto (-62), 3) := by decide +kernel
theorem dX12_program_107 : decode cX12_program 107 = .ok (.return_, 1) := by decide +kernel
theorem dX12_programIs_0 : decode cX12_programIs 0 = .ok (.aload_n 0, 1) := by decide +kernel
theorem dX12_programIs_1 : decode cX12_programIs 1 = .ok (.iload_n 2, 1) := by decide +kernel
theorem dX12_programIs_2 : decode cX12_programIs 2 = .ok (.putfield 18, 3) := by decide +kernel
theorem dX12_programIs_5 : decode cX12_programIs 5 = .ok (.iconst 0, 1) := by decide +kernel
theorem dX12_programIs_6 : decode cX12_programIs 6 = .ok (.istore_n 3, 1) := by decide +kernel
theorem dX12_programIs_7 : decode cX12_programIs 7 = .ok (.iload_n 3, 1) := by decide +kernel
theorem dX12_programIs_8 : decode cX12_programIs 8 = .ok (.iload_n 2, 1) := by decide +kernel
theorem dX12_programIs_9 : decode cX12_programIs 9 = .ok (.sipush 2000, 3) := by decide +kernel
theorem dX12_programIs_12 : decode cX12_programIs 12 = .ok (.invokestatic 265, 3) := by decide +kernel
theorem dX12_programIs_15 : decode cX12_programIs 15 = .ok (.if_icmp .ge 23, 3) := by decide +kernel
theorem dX12_programIs_38 : decode cX12_programIs 38 = .ok (.aload_n 0, 1) := by decide +kernel
theorem dX12_programIs_39 : decode cX12_programIs 39 = .ok (.invokevirtual 1177, 3) := by decide +kernel
theorem dX12_programIs_42 : decode cX12_programIs 42 = .ok (.ifCond .eq 5, 3) := by decide +kernel
theorem dX12_programIs_47 : decode cX12_programIs 47 = .ok (.aload_n 0, 1) := by decide +kernel
theorem dX12_programIs_48 : decode cX12_programIs 48 = .ok (.aload_n 0, 1) := by decide +kernel
theorem dX12_programIs_49 : decode cX12_programIs 49 = .ok (.invokevirtual 1180, 3) := by decide +kernel
theorem dX12_programIs_52 : decode cX12_programIs 52 = .ok (.putfield 1183, 3) := by decide +kernel
theorem dX12_programIs_55 : decode cX12_programIs 55 = .ok (.aload_n 0, 1) := by decide +kernel
theorem dX12_programIs_56 : decode cX12_programIs 56 = .ok (.aload_n 0, 1) := by decide +kernel
theorem dX12_programIs_57 : decode cX12_programIs 57 = .ok (.getfield 1, 3) := by decide +kernel
theorem dX12_programIs_60 : decode cX12_programIs 60 = .ok (.aload_n 0, 1) := by decide +kernel
theorem dX12_programIs_61 : decode cX12_programIs 61 = .ok (.getfield 1183, 3) := by decide +kernel
theorem dX12_programIs_64 : decode cX12_programIs 64 = .ok (.iaload, 1) := by decide +kernel
theorem dX12_programIs_65 : decode cX12_programIs 65 = .ok (.putfield 1186, 3) := by decide +kernel
theorem dX12_programIs_68 : decode cX12_programIs 68 = .ok (.aload_n 0, 1) := by decide +kernel
theorem dX12_programIs_69 : decode cX12_programIs 69 = .ok (.invokevirtual 1189, 3) := by decide +kernel
theorem dX12_programIs_72 : decode cX12_programIs 72 = .ok (.iconst 0, 1) := by decide +kernel
theorem dX12_programIs_73 : decode cX12_programIs 73 = .ok (.ireturn, 1) := by decide +kernel
theorem dX12_readTokens_0 : decode cX12_readTokens 0 = .ok (.iconst 0, 1) := by decide +kernel
theorem dX12_readTokens_1 : decode cX12_readTokens 1 = .ok (.istore_n 1, 1) := by decide +kernel
theorem dX12_readTokens_2 : decode cX12_readTokens 2 = .ok (.aload_n 0, 1) := by decide +kernel
theorem dX12_readTokens_3 : decode cX12_readTokens 3 = .ok (.iconst 0, 1) := by decide +kernel
theorem dX12_readTokens_4 : decode cX12_readTokens 4 = .ok (.putfield 37, 3) := by decide +kernel
theorem dX12_readTokens_7 : decode cX12_readTokens 7 = .ok (.aload_n 0, 1) := by decide +kernel
theorem dX12_readTokens_8 : decode cX12_readTokens 8 = .ok (.iconst 0, 1) := by decide +kernel
theorem dX12_readTokens_9 : decode cX12_readTokens 9 = .ok (.putfield 40, 3) := by decide +kernel
theorem dX12_readTokens_12 : decode cX12_readTokens 12 = .ok (.iconst 1, 1) := by decide +kernel
theorem dX12_readTokens_13 : decode cX12_readTokens 13 = .ok (.istore_n 2, 1) := by decide +kernel
theorem dX12_readTokens_14 : decode cX12_readTokens 14 = .ok (.iload_n 2, 1) := by decide +kernel
theorem dX12_readTokens_15 : decode cX12_readTokens 15 = .ok (.ifCond .eq 129, 3) := by decide +kernel
theorem dX12_readTokens_18 : decode cX12_readTokens 18 = .ok (.iload_n 1, 1) := by decide +kernel
theorem dX12_readTokens_19 : decode cX12_readTokens 19 = .ok (.aload_n 0, 1) := by decide +kernel
theorem dX12_readTokens_20 : decode cX12_readTokens 20 = .ok (.getfield 18, 3) := by decide +kernel
theorem dX12_readTokens_23 : decode cX12_readTokens 23 = .ok (.if_icmp .ge 29, 3) := by decide +kernel
theorem dX12_readTokens_52 : decode cX12_readTokens 52 = .ok (.aload_n 0, 1) := by decide +kernel
theorem dX12_readTokens_53 : decode cX12_readTokens 53 = .ok (.getfield 11, 3) := by decide +kernel
theorem dX12_readTokens_56 : decode cX12_readTokens 56 = .ok (.aload_n 0, 1) := by decide +kernel
theorem dX12_readTokens_57 : decode cX12_readTokens 57 = .ok (.getfield 37, 3) := by decide +kernel
theorem dX12_readTokens_60 : decode cX12_readTokens 60 = .ok (.iload_n 1, 1) := by decide +kernel
theorem dX12_readTokens_61 : decode cX12_readTokens 61 = .ok (.iastore, 1) := by decide +kernel
theorem dX12_readTokens_62 : decode cX12_readTokens 62 = .ok (.iload_n 1, 1) := by decide +kernel
theorem dX12_readTokens_63 : decode cX12_readTokens 63 = .ok (.aload_n 0, 1) := by decide +kernel
theorem dX12_readTokens_64 : decode cX12_readTokens 64 = .ok (.getfield 18, 3) := by decide +kernel
theorem dX12_readTokens_67 : decode cX12_readTokens 67 = .ok (.if_icmp .ne 7, 3) := by decide +kernel
theorem dX12_readTokens_70 : decode cX12_readTokens 70 = .ok (.iconst 0, 1) := by decide +kernel
theorem dX12_readTokens_71 : decode cX12_readTokens 71 = .ok (.goto 8, 3) := by decide +kernel
theorem dX12_readTokens_79 : decode cX12_readTokens 79 = .ok (.istore_n 3, 1) := by decide +kernel
theorem dX12_readTokens_80 : decode cX12_readTokens 80 = .ok (.aload_n 0, 1) := by decide +kernel
theorem dX12_readTokens_81 : decode cX12_readTokens 81 = .ok (.getfield 46, 3) := by decide +kernel
theorem dX12_readTokens_84 : decode cX12_readTokens 84 = .ok (.aload_n 0, 1) := by decide +kernel
theorem dX12_readTokens_85 : decode cX12_readTokens 85 = .ok (.getfield 37, 3) := by decide +kernel
theorem dX12_readTokens_88 : decode cX12_readTokens 88 = .ok (.iload_n 3, 1) := by decide +kernel
theorem dX12_readTokens_89 : decode cX12_readTokens 89 = .ok (.iastore, 1) := by decide +kernel
theorem dX12_readTokens_90 : decode cX12_readTokens 90 = .ok (.iload_n 3, 1) := by decide +kernel
theorem dX12_readTokens_91 : decode cX12_readTokens 91 = .ok (.ifCond .ne 26, 3) := by decide +kernel
theorem dX12_readTokens_94 : decode cX12_readTokens 94 = .ok (.aload_n 0, 1) := by decide +kernel
theorem dX12_readTokens_95 : decode cX12_readTokens 95 = .ok (.getfield 49, 3) := by decide +kernel
theorem dX12_readTokens_98 : decode cX12_readTokens 98 = .ok (.aload_n 0, 1) := by decide +kernel
theorem dX12_readTokens_99 : decode cX12_readTokens 99 = .ok (.getfield 37, 3) := by decide +kernel
theorem dX12_readTokens_102 : decode cX12_readTokens 102 = .ok (.iload_n 1, 1) := by decide +kernel
theorem dX12_readTokens_103 : decode cX12_readTokens 103 = .ok (.aload_n 0, 1) := by decide +kernel
theorem dX12_readTokens_104 : decode cX12_readTokens 104 = .ok (.getfield 18, 3) := by decide +kernel
theorem dX12_readTokens_107 : decode cX12_readTokens 107 = .ok (.if_icmp .ne 7, 3) := by decide +kernel
theorem dX12_readTokens_110 : decode cX12_readTokens 110 = .ok (.iconst 0, 1) := by decide +kernel
theorem dX12_readTokens_111 : decode cX12_readTokens 111 = .ok (.goto 5, 3) := by decide +kernel
theorem dX12_readTokens_116 : decode cX12_readTokens 116 = .ok (.iastore, 1) := by decide +kernel
theorem dX12_readTokens_117 : decode cX12_readTokens 117 = .ok (.iload_n 3, 1) := by decide +kernel
theorem dX12_readTokens_118 : decode cX12_readTokens 118 = .ok (.ifCond .le 7, 3) := by decide +kernel
theorem dX12_readTokens_125 : decode cX12_readTokens 125 = .ok (.iconst 0, 1) := by decide +kernel
theorem dX12_readTokens_126 : decode cX12_readTokens 126 = .ok (.istore_n 2, 1) := by decide +kernel
theorem dX12_readTokens_127 : decode cX12_readTokens 127 = .ok (.iload_n 1, 1) := by decide +kernel
theorem dX12_readTokens_128 : decode cX12_readTokens 128 = .ok (.iload_n 3, 1) := by decide +kernel
theorem dX12_readTokens_129 : decode cX12_readTokens 129 = .ok (.iadd, 1) := by decide +kernel
theorem dX12_readTokens_130 : decode cX12_readTokens 130 = .ok (.istore_n 1, 1) := by decide +kernel
theorem dX12_readTokens_131 : decode cX12_readTokens 131 = .ok (.aload_n 0, 1) := by decide +kernel
theorem dX12_readTokens_132 : decode cX12_readTokens 132 = .ok (.dup, 1) := by decide +kernel
theorem dX12_readTokens_133 : decode cX12_readTokens 133 = .ok (.getfield 37, 3) := by decide +kernel
theorem dX12_readTokens_136 : decode cX12_readTokens 136 = .ok (.iconst 1, 1) := by decide +kernel
theorem dX12_readTokens_137 : decode cX12_readTokens 137 = .ok (.iadd, 1) := by decide +kernel
theorem dX12_readTokens_138 : decode cX12_readTokens 138 = .ok (.putfield 37, 3) := by decide +kernel
theorem dX12_readTokens_141 : decode cX12_readTokens 141 = .ok (.goto (-127), 3) := by decide +kernel
theorem dX12_readTokens_144 : decode cX12_readTokens 144 = .ok (.return_, 1) := by decide +kernel
theorem dX12_restore_0 : decode cX12_restore 0 = .ok (.lload_n 1, 1) := by decide +kernel
theorem dX12_restore_1 : decode cX12_restore 1 = .ok (.lconst 0, 1) := by decide +kernel
theorem dX12_restore_2 : decode cX12_restore 2 = .ok (.lcmp, 1) := by decide +kernel
theorem dX12_restore_3 : decode cX12_restore 3 = .ok (.ifCond .lt 11, 3) := by decide +kernel
theorem dX12_restore_6 : decode cX12_restore 6 = .ok (.lload_n 1, 1) := by decide +kernel
theorem dX12_restore_7 : decode cX12_restore 7 = .ok (.ldc2_w 1209, 3) := by decide +kernel
theorem dX12_restore_10 : decode cX12_restore 10 = .ok (.lcmp, 1) := by decide +kernel
theorem dX12_restore_11 : decode cX12_restore 11 = .ok (.ifCond .le 6, 3) := by decide +kernel
theorem dX12_restore_14 : decode cX12_restore 14 = .ok (.bipush 7, 2) := by decide +kernel
theorem dX12_restore_16 : decode cX12_restore 16 = .ok (.ireturn, 1) := by decide +kernel
theorem dX12_restore_17 : decode cX12_restore 17 = .ok (.aload_n 0, 1) := by decide +kernel
theorem dX12_restore_18 : decode cX12_restore 18 = .ok (.iconst 0, 1) := by decide +kernel
theorem dX12_restore_19 : decode cX12_restore 19 = .ok (.putfield 998, 3) := by decide +kernel
theorem dX12_restore_22 : decode cX12_restore 22 = .ok (.aload_n 0, 1) := by decide +kernel
theorem dX12_restore_23 : decode cX12_restore 23 = .ok (.iconst (-1), 1) := by decide +kernel
theorem dX12_restore_24 : decode cX12_restore 24 = .ok (.putfield 1001, 3) := by decide +kernel
theorem dX12_restore_27 : decode cX12_restore 27 = .ok (.aload_n 0, 1) := by decide +kernel
theorem dX12_restore_28 : decode cX12_restore 28 = .ok (.invokevirtual 1211, 3) := by decide +kernel
theorem dX12_restore_31 : decode cX12_restore 31 = .ok (.ifCond .ne 8, 3) := by decide +kernel
theorem dX12_restore_34 : decode cX12_restore 34 = .ok (.aload_n 0, 1) := by decide +kernel
theorem dX12_restore_35 : decode cX12_restore 35 = .ok (.getfield 998, 3) := by decide +kernel
theorem dX12_restore_38 : decode cX12_restore 38 = .ok (.ireturn, 1) := by decide +kernel
theorem dX12_run_0 : decode cX12_run 0 = .ok (.iload_n 1, 1) := by decide +kernel
theorem dX12_run_1 : decode cX12_run 1 = .ok (.ifCond .lt 10, 3) := by decide +kernel
theorem dX12_run_4 : decode cX12_run 4 = .ok (.iload_n 1, 1) := by decide +kernel
theorem dX12_run_5 : decode cX12_run 5 = .ok (.sipush 20000, 3) := by decide +kernel
theorem dX12_run_8 : decode cX12_run 8 = .ok (.if_icmp .le 5, 3) := by decide +kernel
theorem dX12_run_11 : decode cX12_run 11 = .ok (.iconst (-1), 1) := by decide +kernel
theorem dX12_run_12 : decode cX12_run 12 = .ok (.ireturn, 1) := by decide +kernel
theorem dX12_run_13 : decode cX12_run 13 = .ok (.iconst 0, 1) := by decide +kernel
theorem dX12_run_14 : decode cX12_run 14 = .ok (.istore_n 2, 1) := by decide +kernel
theorem dX12_run_15 : decode cX12_run 15 = .ok (.iload_n 2, 1) := by decide +kernel
theorem dX12_run_16 : decode cX12_run 16 = .ok (.iload_n 1, 1) := by decide +kernel
theorem dX12_run_17 : decode cX12_run 17 = .ok (.if_icmp .ge 24, 3) := by decide +kernel
theorem dX12_run_20 : decode cX12_run 20 = .ok (.aload_n 0, 1) := by decide +kernel
theorem dX12_run_21 : decode cX12_run 21 = .ok (.getfield 566, 3) := by decide +kernel
theorem dX12_run_24 : decode cX12_run 24 = .ok (.iconst 1, 1) := by decide +kernel
theorem dX12_run_25 : decode cX12_run 25 = .ok (.if_icmp .ne 16, 3) := by decide +kernel
theorem dX12_run_41 : decode cX12_run 41 = .ok (.iload_n 2, 1) := by decide +kernel
theorem dX12_run_42 : decode cX12_run 42 = .ok (.ireturn, 1) := by decide +kernel
theorem dX12_seal_0 : decode cX12_seal 0 = .ok (.aload_n 0, 1) := by decide +kernel
theorem dX12_seal_1 : decode cX12_seal 1 = .ok (.getfield 1007, 3) := by decide +kernel
theorem dX12_seal_4 : decode cX12_seal 4 = .ok (.iconst 4, 1) := by decide +kernel
theorem dX12_seal_5 : decode cX12_seal 5 = .ok (.if_icmp .ge 5, 3) := by decide +kernel
theorem dX12_seal_8 : decode cX12_seal 8 = .ok (.iconst 0, 1) := by decide +kernel
theorem dX12_seal_9 : decode cX12_seal 9 = .ok (.ireturn, 1) := by decide +kernel
theorem dX12_take_0 : decode cX12_take 0 = .ok (.aload_n 0, 1) := by decide +kernel
theorem dX12_take_1 : decode cX12_take 1 = .ok (.getfield 978, 3) := by decide +kernel
theorem dX12_take_4 : decode cX12_take 4 = .ok (.ifCond .ne 5, 3) := by decide +kernel
theorem dX12_take_7 : decode cX12_take 7 = .ok (.iconst (-1), 1) := by decide +kernel
theorem dX12_take_8 : decode cX12_take 8 = .ok (.ireturn, 1) := by decide +kernel
theorem dX12_thaw_0 : decode cX12_thaw 0 = .ok (.aload_n 0, 1) := by decide +kernel
theorem dX12_thaw_1 : decode cX12_thaw 1 = .ok (.getfield 566, 3) := by decide +kernel
theorem dX12_thaw_4 : decode cX12_thaw 4 = .ok (.iconst 2, 1) := by decide +kernel
theorem dX12_thaw_5 : decode cX12_thaw 5 = .ok (.if_icmp .eq 5, 3) := by decide +kernel
theorem dX12_thaw_8 : decode cX12_thaw 8 = .ok (.iconst 0, 1) := by decide +kernel
theorem dX12_thaw_9 : decode cX12_thaw 9 = .ok (.ireturn, 1) := by decide +kernel
theorem dX12_thread__0 : decode cX12_thread_ 0 = .ok (.aload_n 0, 1) := by decide +kernel
theorem dX12_thread__1 : decode cX12_thread_ 1 = .ok (.getfield 566, 3) := by decide +kernel
theorem dX12_thread__4 : decode cX12_thread_ 4 = .ok (.ifCond .eq 15, 3) := by decide +kernel
theorem dX12_thread__19 : decode cX12_thread_ 19 = .ok (.iconst (-1), 1) := by decide +kernel
theorem dX12_thread__20 : decode cX12_thread_ 20 = .ok (.ireturn, 1) := by decide +kernel
theorem dX12_wrong_0 : decode cX12_wrong 0 = .ok (.aload_n 0, 1) := by decide +kernel
theorem dX12_wrong_1 : decode cX12_wrong 1 = .ok (.getfield 1, 3) := by decide +kernel
theorem dX12_wrong_4 : decode cX12_wrong 4 = .ok (.iload_n 1, 1) := by decide +kernel
theorem dX12_wrong_5 : decode cX12_wrong 5 = .ok (.iaload, 1) := by decide +kernel
theorem dX12_wrong_6 : decode cX12_wrong 6 = .ok (.ifCond .lt 13, 3) := by decide +kernel
theorem dX12_wrong_19 : decode cX12_wrong 19 = .ok (.aload_n 0, 1) := by decide +kernel
theorem dX12_wrong_20 : decode cX12_wrong 20 = .ok (.getfield 1, 3) := by decide +kernel
theorem dX12_wrong_23 : decode cX12_wrong 23 = .ok (.iload_n 1, 1) := by decide +kernel
theorem dX12_wrong_24 : decode cX12_wrong 24 = .ok (.iload_n 2, 1) := by decide +kernel
theorem dX12_wrong_25 : decode cX12_wrong 25 = .ok (.iastore, 1) := by decide +kernel
theorem dX12_wrong_26 : decode cX12_wrong 26 = .ok (.return_, 1) := by decide +kernel
theorem dX1_init_0 : decode cX1_init 0 = .ok (.aload_n 0, 1) := by decide +kernel
theorem dX1_init_1 : decode cX1_init 1 = .ok (.invokespecial 3, 3) := by decide +kernel
theorem dX1_init_4 : decode cX1_init 4 = .ok (.aload_n 0, 1) := by decide +kernel
theorem dX1_init_5 : decode cX1_init 5 = .ok (.sipush 201, 3) := by decide +kernel
theorem dX1_init_8 : decode cX1_init 8 = .ok (.newarray .int, 2) := by decide +kernel
theorem dX1_init_10 : decode cX1_init 10 = .ok (.putfield 11, 3) := by decide +kernel
theorem dX1_init_13 : decode cX1_init 13 = .ok (.aload_n 0, 1) := by decide +kernel
theorem dX1_init_14 : decode cX1_init 14 = .ok (.sipush 201, 3) := by decide +kernel
theorem dX1_init_17 : decode cX1_init 17 = .ok (.newarray .int, 2) := by decide +kernel
theorem dX1_init_19 : decode cX1_init 19 = .ok (.putfield 15, 3) := by decide +kernel
theorem dX1_init_22 : decode cX1_init 22 = .ok (.aload_n 0, 1) := by decide +kernel
theorem dX1_init_23 : decode cX1_init 23 = .ok (.sipush 201, 3) := by decide +kernel
theorem dX1_init_26 : decode cX1_init 26 = .ok (.newarray .int, 2) := by decide +kernel
theorem dX1_init_28 : decode cX1_init 28 = .ok (.putfield 18, 3) := by decide +kernel
theorem dX1_init_31 : decode cX1_init 31 = .ok (.aload_n 0, 1) := by decide +kernel
theorem dX1_init_32 : decode cX1_init 32 = .ok (.sipush 8040, 3) := by decide +kernel
theorem dX1_init_35 : decode cX1_init 35 = .ok (.newarray .int, 2) := by decide +kernel
theorem dX1_init_37 : decode cX1_init 37 = .ok (.putfield 21, 3) := by decide +kernel
theorem dX1_init_40 : decode cX1_init 40 = .ok (.aload_n 0, 1) := by decide +kernel
theorem dX1_init_41 : decode cX1_init 41 = .ok (.sipush 201, 3) := by decide +kernel
theorem dX1_init_44 : decode cX1_init 44 = .ok (.newarray .int, 2) := by decide +kernel
theorem dX1_init_46 : decode cX1_init 46 = .ok (.putfield 24, 3) := by decide +kernel
theorem dX1_init_49 : decode cX1_init 49 = .ok (.aload_n 0, 1) := by decide +kernel
theorem dX1_init_50 : decode cX1_init 50 = .ok (.sipush 201, 3) := by decide +kernel
theorem dX1_init_53 : decode cX1_init 53 = .ok (.newarray .int, 2) := by decide +kernel
theorem dX1_init_55 : decode cX1_init 55 = .ok (.putfield 27, 3) := by decide +kernel
theorem dX1_init_58 : decode cX1_init 58 = .ok (.aload_n 0, 1) := by decide +kernel
theorem dX1_init_59 : decode cX1_init 59 = .ok (.sipush 201, 3) := by decide +kernel
theorem dX1_init_62 : decode cX1_init 62 = .ok (.newarray .int, 2) := by decide +kernel
theorem dX1_init_64 : decode cX1_init 64 = .ok (.putfield 30, 3) := by decide +kernel
theorem dX1_init_67 : decode cX1_init 67 = .ok (.aload_n 0, 1) := by decide +kernel
theorem dX1_init_68 : decode cX1_init 68 = .ok (.sipush 201, 3) := by decide +kernel
theorem dX1_init_71 : decode cX1_init 71 = .ok (.newarray .int, 2) := by decide +kernel
theorem dX1_init_73 : decode cX1_init 73 = .ok (.putfield 33, 3) := by decide +kernel
theorem dX1_init_76 : decode cX1_init 76 = .ok (.aload_n 0, 1) := by decide +kernel
theorem dX1_init_77 : decode cX1_init 77 = .ok (.sipush 200, 3) := by decide +kernel
theorem dX1_init_80 : decode cX1_init 80 = .ok (.newarray .int, 2) := by decide +kernel
theorem dX1_init_82 : decode cX1_init 82 = .ok (.putfield 36, 3) := by decide +kernel
theorem dX1_init_85 : decode cX1_init 85 = .ok (.aload_n 0, 1) := by decide +kernel
theorem dX1_init_86 : decode cX1_init 86 = .ok (.bipush 12, 2) := by decide +kernel
theorem dX1_init_88 : decode cX1_init 88 = .ok (.newarray .int, 2) := by decide +kernel
theorem dX1_init_90 : decode cX1_init 90 = .ok (.putfield 39, 3) := by decide +kernel
theorem dX1_init_93 : decode cX1_init 93 = .ok (.aload_n 0, 1) := by decide +kernel
theorem dX1_init_94 : decode cX1_init 94 = .ok (.bipush 12, 2) := by decide +kernel
theorem dX1_init_96 : decode cX1_init 96 = .ok (.newarray .int, 2) := by decide +kernel
theorem dX1_init_98 : decode cX1_init 98 = .ok (.putfield 42, 3) := by decide +kernel
theorem dX1_init_101 : decode cX1_init 101 = .ok (.aload_n 0, 1) := by decide +kernel
theorem dX1_init_102 : decode cX1_init 102 = .ok (.bipush 64, 2) := by decide +kernel
theorem dX1_init_104 : decode cX1_init 104 = .ok (.newarray .int, 2) := by decide +kernel
theorem dX1_init_106 : decode cX1_init 106 = .ok (.putfield 45, 3) := by decide +kernel
theorem dX1_init_109 : decode cX1_init 109 = .ok (.return_, 1) := by decide +kernel
theorem dX2_init_0 : decode cX2_init 0 = .ok (.aload_n 0, 1) := by decide +kernel
theorem dX2_init_1 : decode cX2_init 1 = .ok (.invokespecial 3, 3) := by decide +kernel
theorem dX2_init_4 : decode cX2_init 4 = .ok (.aload_n 0, 1) := by decide +kernel
theorem dX2_init_5 : decode cX2_init 5 = .ok (.new 9, 3) := by decide +kernel
theorem dX2_init_8 : decode cX2_init 8 = .ok (.dup, 1) := by decide +kernel
theorem dX2_init_9 : decode cX2_init 9 = .ok (.invokespecial 11, 3) := by decide +kernel
theorem dX2_init_12 : decode cX2_init 12 = .ok (.putfield 12, 3) := by decide +kernel
theorem dX2_init_15 : decode cX2_init 15 = .ok (.aload_n 0, 1) := by decide +kernel
theorem dX2_init_16 : decode cX2_init 16 = .ok (.new 18, 3) := by decide +kernel
theorem dX2_init_19 : decode cX2_init 19 = .ok (.dup, 1) := by decide +kernel
theorem dX2_init_20 : decode cX2_init 20 = .ok (.invokespecial 20, 3) := by decide +kernel
theorem dX2_init_23 : decode cX2_init 23 = .ok (.putfield 21, 3) := by decide +kernel
theorem dX2_init_26 : decode cX2_init 26 = .ok (.aload_n 0, 1) := by decide +kernel
theorem dX2_init_27 : decode cX2_init 27 = .ok (.new 25, 3) := by decide +kernel
theorem dX2_init_30 : decode cX2_init 30 = .ok (.dup, 1) := by decide +kernel
theorem dX2_init_31 : decode cX2_init 31 = .ok (.invokespecial 27, 3) := by decide +kernel
theorem dX2_init_34 : decode cX2_init 34 = .ok (.putfield 28, 3) := by decide +kernel
theorem dX2_init_37 : decode cX2_init 37 = .ok (.aload_n 0, 1) := by decide +kernel
theorem dX2_init_38 : decode cX2_init 38 = .ok (.sipush 4000, 3) := by decide +kernel
theorem dX2_init_41 : decode cX2_init 41 = .ok (.newarray .byte, 2) := by decide +kernel
theorem dX2_init_43 : decode cX2_init 43 = .ok (.putfield 32, 3) := by decide +kernel
theorem dX2_init_46 : decode cX2_init 46 = .ok (.aload_n 0, 1) := by decide +kernel
theorem dX2_init_47 : decode cX2_init 47 = .ok (.bipush 8, 2) := by decide +kernel
theorem dX2_init_49 : decode cX2_init 49 = .ok (.newarray .int, 2) := by decide +kernel
theorem dX2_init_51 : decode cX2_init 51 = .ok (.putfield 36, 3) := by decide +kernel
theorem dX2_init_54 : decode cX2_init 54 = .ok (.aload_n 0, 1) := by decide +kernel
theorem dX2_init_55 : decode cX2_init 55 = .ok (.bipush 8, 2) := by decide +kernel
theorem dX2_init_57 : decode cX2_init 57 = .ok (.newarray .int, 2) := by decide +kernel
theorem dX2_init_59 : decode cX2_init 59 = .ok (.putfield 40, 3) := by decide +kernel
theorem dX2_init_62 : decode cX2_init 62 = .ok (.aload_n 0, 1) := by decide +kernel
theorem dX2_init_63 : decode cX2_init 63 = .ok (.bipush 20, 2) := by decide +kernel
theorem dX2_init_65 : decode cX2_init 65 = .ok (.newarray .int, 2) := by decide +kernel
theorem dX2_init_67 : decode cX2_init 67 = .ok (.putfield 43, 3) := by decide +kernel
theorem dX2_init_70 : decode cX2_init 70 = .ok (.aload_n 0, 1) := by decide +kernel
theorem dX2_init_71 : decode cX2_init 71 = .ok (.iconst 0, 1) := by decide +kernel
theorem dX2_init_72 : decode cX2_init 72 = .ok (.putfield 46, 3) := by decide +kernel
theorem dX2_init_75 : decode cX2_init 75 = .ok (.aload_n 0, 1) := by decide +kernel
theorem dX2_init_76 : decode cX2_init 76 = .ok (.iconst (-1), 1) := by decide +kernel
theorem dX2_init_77 : decode cX2_init 77 = .ok (.putfield 50, 3) := by decide +kernel
theorem dX2_init_80 : decode cX2_init 80 = .ok (.return_, 1) := by decide +kernel
theorem dX3_faultPlace_0 : decode cX3_faultPlace 0 = .ok (.iload_n 1, 1) := by decide +kernel
theorem dX3_faultPlace_1 : decode cX3_faultPlace 1 = .ok (.iconst 1, 1) := by decide +kernel
theorem dX3_faultPlace_2 : decode cX3_faultPlace 2 = .ok (.if_icmp .lt 9, 3) := by decide +kernel
theorem dX3_faultPlace_5 : decode cX3_faultPlace 5 = .ok (.iload_n 1, 1) := by decide +kernel
theorem dX3_faultPlace_6 : decode cX3_faultPlace 6 = .ok (.bipush 6, 2) := by decide +kernel
theorem dX3_faultPlace_8 : decode cX3_faultPlace 8 = .ok (.if_icmp .lt 7, 3) := by decide +kernel
theorem dX3_faultPlace_15 : decode cX3_faultPlace 15 = .ok (.aload_n 0, 1) := by decide +kernel
theorem dX3_faultPlace_16 : decode cX3_faultPlace 16 = .ok (.getfield 27, 3) := by decide +kernel
theorem dX3_faultPlace_19 : decode cX3_faultPlace 19 = .ok (.iload_n 1, 1) := by decide +kernel
theorem dX3_faultPlace_20 : decode cX3_faultPlace 20 = .ok (.iaload, 1) := by decide +kernel
theorem dX3_faultPlace_21 : decode cX3_faultPlace 21 = .ok (.ireturn, 1) := by decide +kernel
theorem dX3_init_0 : decode cX3_init 0 = .ok (.aload_n 0, 1) := by decide +kernel
theorem dX3_init_1 : decode cX3_init 1 = .ok (.invokespecial 3, 3) := by decide +kernel
theorem dX3_init_4 : decode cX3_init 4 = .ok (.aload_n 0, 1) := by decide +kernel
theorem dX3_init_5 : decode cX3_init 5 = .ok (.new 9, 3) := by decide +kernel
theorem dX3_init_8 : decode cX3_init 8 = .ok (.dup, 1) := by decide +kernel
theorem dX3_init_9 : decode cX3_init 9 = .ok (.invokespecial 11, 3) := by decide +kernel
theorem dX3_init_12 : decode cX3_init 12 = .ok (.putfield 12, 3) := by decide +kernel
theorem dX3_init_15 : decode cX3_init 15 = .ok (.aload_n 0, 1) := by decide +kernel
theorem dX3_init_16 : decode cX3_init 16 = .ok (.new 18, 3) := by decide +kernel
theorem dX3_init_19 : decode cX3_init 19 = .ok (.dup, 1) := by decide +kernel
theorem dX3_init_20 : decode cX3_init 20 = .ok (.aload_n 0, 1) := by decide +kernel
theorem dX3_init_21 : decode cX3_init 21 = .ok (.getfield 12, 3) := by decide +kernel
theorem dX3_init_24 : decode cX3_init 24 = .ok (.invokespecial 20, 3) := by decide +kernel
theorem dX3_init_27 : decode cX3_init 27 = .ok (.putfield 23, 3) := by decide +kernel
theorem dX3_init_30 : decode cX3_init 30 = .ok (.aload_n 0, 1) := by decide +kernel
theorem dX3_init_31 : decode cX3_init 31 = .ok (.bipush 6, 2) := by decide +kernel
theorem dX3_init_33 : decode cX3_init 33 = .ok (.newarray .int, 2) := by decide +kernel
theorem dX3_init_35 : decode cX3_init 35 = .ok (.putfield 27, 3) := by decide +kernel
theorem dX3_init_38 : decode cX3_init 38 = .ok (.aload_n 0, 1) := by decide +kernel
theorem dX3_init_39 : decode cX3_init 39 = .ok (.sipush 500, 3) := by decide +kernel
theorem dX3_init_42 : decode cX3_init 42 = .ok (.newarray .int, 2) := by decide +kernel
theorem dX3_init_44 : decode cX3_init 44 = .ok (.putfield 31, 3) := by decide +kernel
theorem dX3_init_47 : decode cX3_init 47 = .ok (.aload_n 0, 1) := by decide +kernel
theorem dX3_init_48 : decode cX3_init 48 = .ok (.sipush 500, 3) := by decide +kernel
theorem dX3_init_51 : decode cX3_init 51 = .ok (.newarray .int, 2) := by decide +kernel
theorem dX3_init_53 : decode cX3_init 53 = .ok (.putfield 34, 3) := by decide +kernel
theorem dX3_init_56 : decode cX3_init 56 = .ok (.aload_n 0, 1) := by decide +kernel
theorem dX3_init_57 : decode cX3_init 57 = .ok (.sipush 2000, 3) := by decide +kernel
theorem dX3_init_60 : decode cX3_init 60 = .ok (.newarray .int, 2) := by decide +kernel
theorem dX3_init_62 : decode cX3_init 62 = .ok (.putfield 37, 3) := by decide +kernel
theorem dX3_init_65 : decode cX3_init 65 = .ok (.return_, 1) := by decide +kernel
theorem dX3_make_0 : decode cX3_make 0 = .ok (.aload_n 0, 1) := by decide +kernel
theorem dX3_make_1 : decode cX3_make 1 = .ok (.aload_n 1, 1) := by decide +kernel
theorem dX3_make_2 : decode cX3_make 2 = .ok (.putfield 40, 3) := by decide +kernel
theorem dX3_make_5 : decode cX3_make 5 = .ok (.aload_n 0, 1) := by decide +kernel
theorem dX3_make_6 : decode cX3_make 6 = .ok (.getfield 27, 3) := by decide +kernel
theorem dX3_make_9 : decode cX3_make 9 = .ok (.ldc 44, 2) := by decide +kernel
theorem dX3_make_11 : decode cX3_make 11 = .ok (.invokestatic 45, 3) := by decide +kernel
theorem dX3_make_14 : decode cX3_make 14 = .ok (.aload_n 1, 1) := by decide +kernel
theorem dX3_make_15 : decode cX3_make 15 = .ok (.getfield 51, 3) := by decide +kernel
theorem dX3_make_18 : decode cX3_make 18 = .ok (.sipush 2000, 3) := by decide +kernel
theorem dX3_make_21 : decode cX3_make 21 = .ok (.if_icmp .le 13, 3) := by decide +kernel
theorem dX3_make_34 : decode cX3_make 34 = .ok (.aload_n 0, 1) := by decide +kernel
theorem dX3_make_35 : decode cX3_make 35 = .ok (.getfield 12, 3) := by decide +kernel
theorem dX3_make_38 : decode cX3_make 38 = .ok (.aload_n 1, 1) := by decide +kernel
theorem dX3_make_39 : decode cX3_make 39 = .ok (.getfield 61, 3) := by decide +kernel
theorem dX3_make_42 : decode cX3_make 42 = .ok (.aload_n 1, 1) := by decide +kernel
theorem dX3_make_43 : decode cX3_make 43 = .ok (.getfield 51, 3) := by decide +kernel
theorem dX3_make_46 : decode cX3_make 46 = .ok (.invokevirtual 65, 3) := by decide +kernel
theorem dX3_make_49 : decode cX3_make 49 = .ok (.aload_n 0, 1) := by decide +kernel
theorem dX3_make_50 : decode cX3_make 50 = .ok (.getfield 23, 3) := by decide +kernel
theorem dX3_make_53 : decode cX3_make 53 = .ok (.invokevirtual 69, 3) := by decide +kernel
theorem dX3_make_56 : decode cX3_make 56 = .ok (.aload_n 0, 1) := by decide +kernel
theorem dX3_make_57 : decode cX3_make 57 = .ok (.getfield 23, 3) := by decide +kernel
theorem dX3_make_60 : decode cX3_make 60 = .ok (.getfield 72, 3) := by decide +kernel
theorem dX3_make_63 : decode cX3_make 63 = .ok (.iconst (-1), 1) := by decide +kernel
theorem dX3_make_64 : decode cX3_make 64 = .ok (.if_icmp .eq 17, 3) := by decide +kernel
theorem dX3_make_67 : decode cX3_make 67 = .ok (.aload_n 0, 1) := by decide +kernel
theorem dX3_make_68 : decode cX3_make 68 = .ok (.iconst 1, 1) := by decide +kernel
theorem dX3_make_69 : decode cX3_make 69 = .ok (.aload_n 0, 1) := by decide +kernel
theorem dX3_make_70 : decode cX3_make 70 = .ok (.getfield 23, 3) := by decide +kernel
theorem dX3_make_73 : decode cX3_make 73 = .ok (.getfield 72, 3) := by decide +kernel
theorem dX3_make_76 : decode cX3_make 76 = .ok (.invokevirtual 57, 3) := by decide +kernel
theorem dX3_make_79 : decode cX3_make 79 = .ok (.iconst 1, 1) := by decide +kernel
theorem dX3_make_80 : decode cX3_make 80 = .ok (.ireturn, 1) := by decide +kernel
theorem dX3_note_0 : decode cX3_note 0 = .ok (.aload_n 0, 1) := by decide +kernel
theorem dX3_note_1 : decode cX3_note 1 = .ok (.getfield 27, 3) := by decide +kernel
theorem dX3_note_4 : decode cX3_note 4 = .ok (.iload_n 1, 1) := by decide +kernel
theorem dX3_note_5 : decode cX3_note 5 = .ok (.aload_n 0, 1) := by decide +kernel
theorem dX3_note_6 : decode cX3_note 6 = .ok (.getfield 27, 3) := by decide +kernel
theorem dX3_note_9 : decode cX3_note 9 = .ok (.iload_n 1, 1) := by decide +kernel
theorem dX3_note_10 : decode cX3_note 10 = .ok (.iaload, 1) := by decide +kernel
theorem dX3_note_11 : decode cX3_note 11 = .ok (.iload_n 2, 1) := by decide +kernel
theorem dX3_note_12 : decode cX3_note 12 = .ok (.invokestatic 100, 3) := by decide +kernel
theorem dX3_note_15 : decode cX3_note 15 = .ok (.iastore, 1) := by decide +kernel
theorem dX3_note_16 : decode cX3_note 16 = .ok (.return_, 1) := by decide +kernel
theorem dX4_init_0 : decode cX4_init 0 = .ok (.aload_n 0, 1) := by decide +kernel
theorem dX4_init_1 : decode cX4_init 1 = .ok (.invokespecial 3, 3) := by decide +kernel
theorem dX4_init_4 : decode cX4_init 4 = .ok (.aload_n 0, 1) := by decide +kernel
theorem dX4_init_5 : decode cX4_init 5 = .ok (.sipush 2000, 3) := by decide +kernel
theorem dX4_init_8 : decode cX4_init 8 = .ok (.newarray .byte, 2) := by decide +kernel
theorem dX4_init_10 : decode cX4_init 10 = .ok (.putfield 9, 3) := by decide +kernel
theorem dX4_init_13 : decode cX4_init 13 = .ok (.aload_n 0, 1) := by decide +kernel
theorem dX4_init_14 : decode cX4_init 14 = .ok (.sipush 266, 3) := by decide +kernel
theorem dX4_init_17 : decode cX4_init 17 = .ok (.newarray .int, 2) := by decide +kernel
theorem dX4_init_19 : decode cX4_init 19 = .ok (.putfield 15, 3) := by decide +kernel
theorem dX4_init_22 : decode cX4_init 22 = .ok (.aload_n 0, 1) := by decide +kernel
theorem dX4_init_23 : decode cX4_init 23 = .ok (.bipush 40, 2) := by decide +kernel
theorem dX4_init_25 : decode cX4_init 25 = .ok (.newarray .int, 2) := by decide +kernel
theorem dX4_init_27 : decode cX4_init 27 = .ok (.putfield 19, 3) := by decide +kernel
theorem dX4_init_30 : decode cX4_init 30 = .ok (.aload_n 0, 1) := by decide +kernel
theorem dX4_init_31 : decode cX4_init 31 = .ok (.bipush 64, 2) := by decide +kernel
theorem dX4_init_33 : decode cX4_init 33 = .ok (.newarray .int, 2) := by decide +kernel
theorem dX4_init_35 : decode cX4_init 35 = .ok (.putfield 22, 3) := by decide +kernel
theorem dX4_init_38 : decode cX4_init 38 = .ok (.aload_n 0, 1) := by decide +kernel
theorem dX4_init_39 : decode cX4_init 39 = .ok (.bipush 64, 2) := by decide +kernel
theorem dX4_init_41 : decode cX4_init 41 = .ok (.newarray .int, 2) := by decide +kernel
theorem dX4_init_43 : decode cX4_init 43 = .ok (.putfield 25, 3) := by decide +kernel
theorem dX4_init_46 : decode cX4_init 46 = .ok (.aload_n 0, 1) := by decide +kernel
theorem dX4_init_47 : decode cX4_init 47 = .ok (.bipush 64, 2) := by decide +kernel
theorem dX4_init_49 : decode cX4_init 49 = .ok (.newarray .int, 2) := by decide +kernel
theorem dX4_init_51 : decode cX4_init 51 = .ok (.putfield 28, 3) := by decide +kernel
theorem dX4_init_54 : decode cX4_init 54 = .ok (.aload_n 0, 1) := by decide +kernel
theorem dX4_init_55 : decode cX4_init 55 = .ok (.bipush 40, 2) := by decide +kernel
theorem dX4_init_57 : decode cX4_init 57 = .ok (.newarray .int, 2) := by decide +kernel
theorem dX4_init_59 : decode cX4_init 59 = .ok (.putfield 31, 3) := by decide +kernel
theorem dX4_init_62 : decode cX4_init 62 = .ok (.aload_n 0, 1) := by decide +kernel
theorem dX4_init_63 : decode cX4_init 63 = .ok (.bipush 40, 2) := by decide +kernel
theorem dX4_init_65 : decode cX4_init 65 = .ok (.newarray .int, 2) := by decide +kernel
theorem dX4_init_67 : decode cX4_init 67 = .ok (.putfield 34, 3) := by decide +kernel
theorem dX4_init_70 : decode cX4_init 70 = .ok (.aload_n 0, 1) := by decide +kernel
theorem dX4_init_71 : decode cX4_init 71 = .ok (.sipush 4766, 3) := by decide +kernel
theorem dX4_init_74 : decode cX4_init 74 = .ok (.newarray .int, 2) := by decide +kernel
theorem dX4_init_76 : decode cX4_init 76 = .ok (.putfield 37, 3) := by decide +kernel
theorem dX4_init_79 : decode cX4_init 79 = .ok (.aload_n 0, 1) := by decide +kernel
theorem dX4_init_80 : decode cX4_init 80 = .ok (.sipush 4766, 3) := by decide +kernel
theorem dX4_init_83 : decode cX4_init 83 = .ok (.newarray .int, 2) := by decide +kernel
theorem dX4_init_85 : decode cX4_init 85 = .ok (.putfield 40, 3) := by decide +kernel
theorem dX4_init_88 : decode cX4_init 88 = .ok (.aload_n 0, 1) := by decide +kernel
theorem dX4_init_89 : decode cX4_init 89 = .ok (.sipush 4766, 3) := by decide +kernel
theorem dX4_init_92 : decode cX4_init 92 = .ok (.newarray .int, 2) := by decide +kernel
theorem dX4_init_94 : decode cX4_init 94 = .ok (.putfield 43, 3) := by decide +kernel
theorem dX4_init_97 : decode cX4_init 97 = .ok (.aload_n 0, 1) := by decide +kernel
theorem dX4_init_98 : decode cX4_init 98 = .ok (.sipush 4766, 3) := by decide +kernel
theorem dX4_init_101 : decode cX4_init 101 = .ok (.newarray .int, 2) := by decide +kernel
theorem dX4_init_103 : decode cX4_init 103 = .ok (.putfield 46, 3) := by decide +kernel
theorem dX4_init_106 : decode cX4_init 106 = .ok (.aload_n 0, 1) := by decide +kernel
theorem dX4_init_107 : decode cX4_init 107 = .ok (.sipush 4766, 3) := by decide +kernel
theorem dX4_init_110 : decode cX4_init 110 = .ok (.newarray .long, 2) := by decide +kernel
theorem dX4_init_112 : decode cX4_init 112 = .ok (.putfield 49, 3) := by decide +kernel
theorem dX4_init_115 : decode cX4_init 115 = .ok (.aload_n 0, 1) := by decide +kernel
theorem dX4_init_116 : decode cX4_init 116 = .ok (.sipush 4766, 3) := by decide +kernel
theorem dX4_init_119 : decode cX4_init 119 = .ok (.newarray .long, 2) := by decide +kernel
theorem dX4_init_121 : decode cX4_init 121 = .ok (.putfield 53, 3) := by decide +kernel
theorem dX4_init_124 : decode cX4_init 124 = .ok (.return_, 1) := by decide +kernel
theorem dX4_setText_0 : decode cX4_setText 0 = .ok (.aload_n 0, 1) := by decide +kernel
theorem dX4_setText_1 : decode cX4_setText 1 = .ok (.iload_n 3, 1) := by decide +kernel
theorem dX4_setText_2 : decode cX4_setText 2 = .ok (.putfield 56, 3) := by decide +kernel
theorem dX4_setText_5 : decode cX4_setText 5 = .ok (.aload_n 1, 1) := by decide +kernel
theorem dX4_setText_6 : decode cX4_setText 6 = .ok (.iload_n 2, 1) := by decide +kernel
theorem dX4_setText_7 : decode cX4_setText 7 = .ok (.aload_n 0, 1) := by decide +kernel
theorem dX4_setText_8 : decode cX4_setText 8 = .ok (.getfield 9, 3) := by decide +kernel
theorem dX4_setText_11 : decode cX4_setText 11 = .ok (.iconst 0, 1) := by decide +kernel
theorem dX4_setText_12 : decode cX4_setText 12 = .ok (.iload_n 3, 1) := by decide +kernel
theorem dX4_setText_13 : decode cX4_setText 13 = .ok (.sipush 2000, 3) := by decide +kernel
theorem dX4_setText_16 : decode cX4_setText 16 = .ok (.invokestatic 60, 3) := by decide +kernel
theorem dX4_setText_19 : decode cX4_setText 19 = .ok (.invokestatic 66, 3) := by decide +kernel
theorem dX4_setText_22 : decode cX4_setText 22 = .ok (.return_, 1) := by decide +kernel
theorem dX5_init_0 : decode cX5_init 0 = .ok (.aload_n 0, 1) := by decide +kernel
theorem dX5_init_1 : decode cX5_init 1 = .ok (.invokespecial 3, 3) := by decide +kernel
theorem dX5_init_4 : decode cX5_init 4 = .ok (.aload_n 0, 1) := by decide +kernel
theorem dX5_init_5 : decode cX5_init 5 = .ok (.sipush 200, 3) := by decide +kernel
theorem dX5_init_8 : decode cX5_init 8 = .ok (.newarray .int, 2) := by decide +kernel
theorem dX5_init_10 : decode cX5_init 10 = .ok (.putfield 9, 3) := by decide +kernel
theorem dX5_init_13 : decode cX5_init 13 = .ok (.aload_n 0, 1) := by decide +kernel
theorem dX5_init_14 : decode cX5_init 14 = .ok (.sipush 200, 3) := by decide +kernel
theorem dX5_init_17 : decode cX5_init 17 = .ok (.newarray .int, 2) := by decide +kernel
theorem dX5_init_19 : decode cX5_init 19 = .ok (.putfield 15, 3) := by decide +kernel
theorem dX5_init_22 : decode cX5_init 22 = .ok (.aload_n 0, 1) := by decide +kernel
theorem dX5_init_23 : decode cX5_init 23 = .ok (.sipush 200, 3) := by decide +kernel
theorem dX5_init_26 : decode cX5_init 26 = .ok (.newarray .int, 2) := by decide +kernel
theorem dX5_init_28 : decode cX5_init 28 = .ok (.putfield 18, 3) := by decide +kernel
theorem dX5_init_31 : decode cX5_init 31 = .ok (.aload_n 0, 1) := by decide +kernel
theorem dX5_init_32 : decode cX5_init 32 = .ok (.sipush 200, 3) := by decide +kernel
theorem dX5_init_35 : decode cX5_init 35 = .ok (.newarray .int, 2) := by decide +kernel
theorem dX5_init_37 : decode cX5_init 37 = .ok (.putfield 21, 3) := by decide +kernel
theorem dX5_init_40 : decode cX5_init 40 = .ok (.aload_n 0, 1) := by decide +kernel
theorem dX5_init_41 : decode cX5_init 41 = .ok (.sipush 1600, 3) := by decide +kernel
theorem dX5_init_44 : decode cX5_init 44 = .ok (.newarray .int, 2) := by decide +kernel
theorem dX5_init_46 : decode cX5_init 46 = .ok (.putfield 24, 3) := by decide +kernel
theorem dX5_init_49 : decode cX5_init 49 = .ok (.aload_n 0, 1) := by decide +kernel
theorem dX5_init_50 : decode cX5_init 50 = .ok (.sipush 200, 3) := by decide +kernel
theorem dX5_init_53 : decode cX5_init 53 = .ok (.newarray .int, 2) := by decide +kernel
theorem dX5_init_55 : decode cX5_init 55 = .ok (.putfield 27, 3) := by decide +kernel
theorem dX5_init_58 : decode cX5_init 58 = .ok (.aload_n 0, 1) := by decide +kernel
theorem dX5_init_59 : decode cX5_init 59 = .ok (.sipush 1600, 3) := by decide +kernel
theorem dX5_init_62 : decode cX5_init 62 = .ok (.newarray .int, 2) := by decide +kernel
theorem dX5_init_64 : decode cX5_init 64 = .ok (.putfield 30, 3) := by decide +kernel
theorem dX5_init_67 : decode cX5_init 67 = .ok (.aload_n 0, 1) := by decide +kernel
theorem dX5_init_68 : decode cX5_init 68 = .ok (.bipush 9, 2) := by decide +kernel
theorem dX5_init_70 : decode cX5_init 70 = .ok (.newarray .int, 2) := by decide +kernel
theorem dX5_init_72 : decode cX5_init 72 = .ok (.putfield 33, 3) := by decide +kernel
theorem dX5_init_75 : decode cX5_init 75 = .ok (.aload_n 0, 1) := by decide +kernel
theorem dX5_init_76 : decode cX5_init 76 = .ok (.bipush 9, 2) := by decide +kernel
theorem dX5_init_78 : decode cX5_init 78 = .ok (.newarray .int, 2) := by decide +kernel
theorem dX5_init_80 : decode cX5_init 80 = .ok (.putfield 36, 3) := by decide +kernel
theorem dX5_init_83 : decode cX5_init 83 = .ok (.aload_n 0, 1) := by decide +kernel
theorem dX5_init_84 : decode cX5_init 84 = .ok (.iconst 0, 1) := by decide +kernel
theorem dX5_init_85 : decode cX5_init 85 = .ok (.newarray .byte, 2) := by decide +kernel
theorem dX5_init_87 : decode cX5_init 87 = .ok (.putfield 39, 3) := by decide +kernel
theorem dX5_init_90 : decode cX5_init 90 = .ok (.return_, 1) := by decide +kernel
theorem dX5_layoutFault_0 : decode cX5_layoutFault 0 = .ok (.aload_n 0, 1) := by decide +kernel
theorem dX5_layoutFault_1 : decode cX5_layoutFault 1 = .ok (.aload_n 1, 1) := by decide +kernel
theorem dX5_layoutFault_2 : decode cX5_layoutFault 2 = .ok (.putfield 39, 3) := by decide +kernel
theorem dX5_layoutFault_5 : decode cX5_layoutFault 5 = .ok (.iconst 0, 1) := by decide +kernel
theorem dX5_layoutFault_6 : decode cX5_layoutFault 6 = .ok (.istore_n 3, 1) := by decide +kernel
theorem dX5_layoutFault_7 : decode cX5_layoutFault 7 = .ok (.iload_n 3, 1) := by decide +kernel
theorem dX5_layoutFault_8 : decode cX5_layoutFault 8 = .ok (.bipush 7, 2) := by decide +kernel
theorem dX5_layoutFault_10 : decode cX5_layoutFault 10 = .ok (.if_icmp .ge 75, 3) := by decide +kernel
theorem dX5_layoutFault_13 : decode cX5_layoutFault 13 = .ok (.iload_n 3, 1) := by decide +kernel
theorem dX5_layoutFault_14 : decode cX5_layoutFault 14 = .ok (.iload_n 2, 1) := by decide +kernel
theorem dX5_layoutFault_15 : decode cX5_layoutFault 15 = .ok (.if_icmp .ge 70, 3) := by decide +kernel
theorem dX5_layoutFault_85 : decode cX5_layoutFault 85 = .ok (.iload_n 2, 1) := by decide +kernel
theorem dX5_layoutFault_86 : decode cX5_layoutFault 86 = .ok (.bipush 11, 2) := by decide +kernel
theorem dX5_layoutFault_88 : decode cX5_layoutFault 88 = .ok (.if_icmp .ge 5, 3) := by decide +kernel
theorem dX5_layoutFault_91 : decode cX5_layoutFault 91 = .ok (.iload_n 2, 1) := by decide +kernel
theorem dX5_layoutFault_92 : decode cX5_layoutFault 92 = .ok (.ireturn, 1) := by decide +kernel
theorem dX6_init_0 : decode cX6_init 0 = .ok (.aload_n 0, 1) := by decide +kernel
theorem dX6_init_1 : decode cX6_init 1 = .ok (.invokespecial 3, 3) := by decide +kernel
theorem dX6_init_4 : decode cX6_init 4 = .ok (.return_, 1) := by decide +kernel
theorem dX7_init_0 : decode cX7_init 0 = .ok (.aload_n 0, 1) := by decide +kernel
theorem dX7_init_1 : decode cX7_init 1 = .ok (.invokespecial 3, 3) := by decide +kernel
theorem dX7_init_4 : decode cX7_init 4 = .ok (.aload_n 0, 1) := by decide +kernel
theorem dX7_init_5 : decode cX7_init 5 = .ok (.bipush 12, 2) := by decide +kernel
theorem dX7_init_7 : decode cX7_init 7 = .ok (.newarray .int, 2) := by decide +kernel
theorem dX7_init_9 : decode cX7_init 9 = .ok (.putfield 9, 3) := by decide +kernel
theorem dX7_init_12 : decode cX7_init 12 = .ok (.return_, 1) := by decide +kernel
theorem dX8_init_0 : decode cX8_init 0 = .ok (.aload_n 0, 1) := by decide +kernel
theorem dX8_init_1 : decode cX8_init 1 = .ok (.invokespecial 3, 3) := by decide +kernel
theorem dX8_init_4 : decode cX8_init 4 = .ok (.aload_n 0, 1) := by decide +kernel
theorem dX8_init_5 : decode cX8_init 5 = .ok (.bipush 8, 2) := by decide +kernel
theorem dX8_init_7 : decode cX8_init 7 = .ok (.newarray .int, 2) := by decide +kernel
theorem dX8_init_9 : decode cX8_init 9 = .ok (.putfield 9, 3) := by decide +kernel
theorem dX8_init_12 : decode cX8_init 12 = .ok (.aload_n 0, 1) := by decide +kernel
theorem dX8_init_13 : decode cX8_init 13 = .ok (.bipush 8, 2) := by decide +kernel
theorem dX8_init_15 : decode cX8_init 15 = .ok (.newarray .boolean, 2) := by decide +kernel
theorem dX8_init_17 : decode cX8_init 17 = .ok (.putfield 15, 3) := by decide +kernel
theorem dX8_init_20 : decode cX8_init 20 = .ok (.aload_n 0, 1) := by decide +kernel
theorem dX8_init_21 : decode cX8_init 21 = .ok (.bipush 8, 2) := by decide +kernel
theorem dX8_init_23 : decode cX8_init 23 = .ok (.newarray .int, 2) := by decide +kernel
theorem dX8_init_25 : decode cX8_init 25 = .ok (.putfield 19, 3) := by decide +kernel
theorem dX8_init_28 : decode cX8_init 28 = .ok (.aload_n 0, 1) := by decide +kernel
theorem dX8_init_29 : decode cX8_init 29 = .ok (.bipush 8, 2) := by decide +kernel
theorem dX8_init_31 : decode cX8_init 31 = .ok (.newarray .long, 2) := by decide +kernel
theorem dX8_init_33 : decode cX8_init 33 = .ok (.putfield 22, 3) := by decide +kernel
theorem dX8_init_36 : decode cX8_init 36 = .ok (.aload_n 0, 1) := by decide +kernel
theorem dX8_init_37 : decode cX8_init 37 = .ok (.bipush 8, 2) := by decide +kernel
theorem dX8_init_39 : decode cX8_init 39 = .ok (.newarray .int, 2) := by decide +kernel
theorem dX8_init_41 : decode cX8_init 41 = .ok (.putfield 26, 3) := by decide +kernel
theorem dX8_init_44 : decode cX8_init 44 = .ok (.aload_n 0, 1) := by decide +kernel
theorem dX8_init_45 : decode cX8_init 45 = .ok (.bipush 8, 2) := by decide +kernel
theorem dX8_init_47 : decode cX8_init 47 = .ok (.newarray .int, 2) := by decide +kernel
theorem dX8_init_49 : decode cX8_init 49 = .ok (.putfield 29, 3) := by decide +kernel
theorem dX8_init_52 : decode cX8_init 52 = .ok (.aload_n 0, 1) := by decide +kernel
theorem dX8_init_53 : decode cX8_init 53 = .ok (.bipush 8, 2) := by decide +kernel
theorem dX8_init_55 : decode cX8_init 55 = .ok (.newarray .int, 2) := by decide +kernel
theorem dX8_init_57 : decode cX8_init 57 = .ok (.putfield 32, 3) := by decide +kernel
theorem dX8_init_60 : decode cX8_init 60 = .ok (.aload_n 0, 1) := by decide +kernel
theorem dX8_init_61 : decode cX8_init 61 = .ok (.bipush 8, 2) := by decide +kernel
theorem dX8_init_63 : decode cX8_init 63 = .ok (.newarray .int, 2) := by decide +kernel
theorem dX8_init_65 : decode cX8_init 65 = .ok (.putfield 35, 3) := by decide +kernel
theorem dX8_init_68 : decode cX8_init 68 = .ok (.aload_n 0, 1) := by decide +kernel
theorem dX8_init_69 : decode cX8_init 69 = .ok (.bipush 8, 2) := by decide +kernel
theorem dX8_init_71 : decode cX8_init 71 = .ok (.newarray .int, 2) := by decide +kernel
theorem dX8_init_73 : decode cX8_init 73 = .ok (.putfield 38, 3) := by decide +kernel
theorem dX8_init_76 : decode cX8_init 76 = .ok (.aload_n 0, 1) := by decide +kernel
theorem dX8_init_77 : decode cX8_init 77 = .ok (.bipush 8, 2) := by decide +kernel
theorem dX8_init_79 : decode cX8_init 79 = .ok (.newarray .int, 2) := by decide +kernel
theorem dX8_init_81 : decode cX8_init 81 = .ok (.putfield 41, 3) := by decide +kernel
theorem dX8_init_84 : decode cX8_init 84 = .ok (.aload_n 0, 1) := by decide +kernel
theorem dX8_init_85 : decode cX8_init 85 = .ok (.bipush 8, 2) := by decide +kernel
theorem dX8_init_87 : decode cX8_init 87 = .ok (.newarray .int, 2) := by decide +kernel
theorem dX8_init_89 : decode cX8_init 89 = .ok (.putfield 44, 3) := by decide +kernel
theorem dX8_init_92 : decode cX8_init 92 = .ok (.aload_n 0, 1) := by decide +kernel
theorem dX8_init_93 : decode cX8_init 93 = .ok (.sipush 240, 3) := by decide +kernel
theorem dX8_init_96 : decode cX8_init 96 = .ok (.newarray .int, 2) := by decide +kernel
theorem dX8_init_98 : decode cX8_init 98 = .ok (.putfield 47, 3) := by decide +kernel
theorem dX8_init_101 : decode cX8_init 101 = .ok (.aload_n 0, 1) := by decide +kernel
theorem dX8_init_102 : decode cX8_init 102 = .ok (.sipush 240, 3) := by decide +kernel
theorem dX8_init_105 : decode cX8_init 105 = .ok (.newarray .int, 2) := by decide +kernel
theorem dX8_init_107 : decode cX8_init 107 = .ok (.putfield 50, 3) := by decide +kernel
theorem dX8_init_110 : decode cX8_init 110 = .ok (.aload_n 0, 1) := by decide +kernel
theorem dX8_init_111 : decode cX8_init 111 = .ok (.sipush 240, 3) := by decide +kernel
theorem dX8_init_114 : decode cX8_init 114 = .ok (.newarray .int, 2) := by decide +kernel
theorem dX8_init_116 : decode cX8_init 116 = .ok (.putfield 53, 3) := by decide +kernel
theorem dX8_init_119 : decode cX8_init 119 = .ok (.aload_n 0, 1) := by decide +kernel
theorem dX8_init_120 : decode cX8_init 120 = .ok (.sipush 240, 3) := by decide +kernel
theorem dX8_init_123 : decode cX8_init 123 = .ok (.newarray .int, 2) := by decide +kernel
theorem dX8_init_125 : decode cX8_init 125 = .ok (.putfield 56, 3) := by decide +kernel
theorem dX8_init_128 : decode cX8_init 128 = .ok (.aload_n 0, 1) := by decide +kernel
theorem dX8_init_129 : decode cX8_init 129 = .ok (.sipush 2880, 3) := by decide +kernel
theorem dX8_init_132 : decode cX8_init 132 = .ok (.newarray .int, 2) := by decide +kernel
theorem dX8_init_134 : decode cX8_init 134 = .ok (.putfield 59, 3) := by decide +kernel
theorem dX8_init_137 : decode cX8_init 137 = .ok (.aload_n 0, 1) := by decide +kernel
theorem dX8_init_138 : decode cX8_init 138 = .ok (.sipush 2400, 3) := by decide +kernel
theorem dX8_init_141 : decode cX8_init 141 = .ok (.newarray .int, 2) := by decide +kernel
theorem dX8_init_143 : decode cX8_init 143 = .ok (.putfield 62, 3) := by decide +kernel
theorem dX8_init_146 : decode cX8_init 146 = .ok (.aload_n 0, 1) := by decide +kernel
theorem dX8_init_147 : decode cX8_init 147 = .ok (.sipush 4800, 3) := by decide +kernel
theorem dX8_init_150 : decode cX8_init 150 = .ok (.newarray .int, 2) := by decide +kernel
theorem dX8_init_152 : decode cX8_init 152 = .ok (.putfield 65, 3) := by decide +kernel
theorem dX8_init_155 : decode cX8_init 155 = .ok (.return_, 1) := by decide +kernel
theorem dX9_add_0 : decode cX9_add 0 = .ok (.aload_n 0, 1) := by decide +kernel
theorem dX9_add_1 : decode cX9_add 1 = .ok (.getfield 47, 3) := by decide +kernel
theorem dX9_add_4 : decode cX9_add 4 = .ok (.sipush 2003, 3) := by decide +kernel
theorem dX9_add_7 : decode cX9_add 7 = .ok (.if_icmp .ge 54, 3) := by decide +kernel
theorem dX9_add_10 : decode cX9_add 10 = .ok (.aload_n 0, 1) := by decide +kernel
theorem dX9_add_11 : decode cX9_add 11 = .ok (.getfield 11, 3) := by decide +kernel
theorem dX9_add_14 : decode cX9_add 14 = .ok (.aload_n 0, 1) := by decide +kernel
theorem dX9_add_15 : decode cX9_add 15 = .ok (.getfield 47, 3) := by decide +kernel
theorem dX9_add_18 : decode cX9_add 18 = .ok (.iload_n 1, 1) := by decide +kernel
theorem dX9_add_19 : decode cX9_add 19 = .ok (.iastore, 1) := by decide +kernel
theorem dX9_add_20 : decode cX9_add 20 = .ok (.aload_n 0, 1) := by decide +kernel
theorem dX9_add_21 : decode cX9_add 21 = .ok (.getfield 15, 3) := by decide +kernel
theorem dX9_add_24 : decode cX9_add 24 = .ok (.aload_n 0, 1) := by decide +kernel
theorem dX9_add_25 : decode cX9_add 25 = .ok (.getfield 47, 3) := by decide +kernel
theorem dX9_add_28 : decode cX9_add 28 = .ok (.iload_n 2, 1) := by decide +kernel
theorem dX9_add_29 : decode cX9_add 29 = .ok (.iastore, 1) := by decide +kernel
theorem dX9_add_30 : decode cX9_add 30 = .ok (.aload_n 0, 1) := by decide +kernel
theorem dX9_add_31 : decode cX9_add 31 = .ok (.getfield 18, 3) := by decide +kernel
theorem dX9_add_34 : decode cX9_add 34 = .ok (.aload_n 0, 1) := by decide +kernel
theorem dX9_add_35 : decode cX9_add 35 = .ok (.getfield 47, 3) := by decide +kernel
theorem dX9_add_38 : decode cX9_add 38 = .ok (.iload_n 3, 1) := by decide +kernel
theorem dX9_add_39 : decode cX9_add 39 = .ok (.iastore, 1) := by decide +kernel
theorem dX9_add_40 : decode cX9_add 40 = .ok (.aload_n 0, 1) := by decide +kernel
theorem dX9_add_41 : decode cX9_add 41 = .ok (.getfield 21, 3) := by decide +kernel
theorem dX9_add_44 : decode cX9_add 44 = .ok (.aload_n 0, 1) := by decide +kernel
theorem dX9_add_45 : decode cX9_add 45 = .ok (.getfield 47, 3) := by decide +kernel
theorem dX9_add_48 : decode cX9_add 48 = .ok (.iload 4, 2) := by decide +kernel
theorem dX9_add_50 : decode cX9_add 50 = .ok (.iastore, 1) := by decide +kernel
theorem dX9_add_51 : decode cX9_add 51 = .ok (.aload_n 0, 1) := by decide +kernel
theorem dX9_add_52 : decode cX9_add 52 = .ok (.dup, 1) := by decide +kernel
theorem dX9_add_53 : decode cX9_add 53 = .ok (.getfield 47, 3) := by decide +kernel
theorem dX9_add_56 : decode cX9_add 56 = .ok (.iconst 1, 1) := by decide +kernel
theorem dX9_add_57 : decode cX9_add 57 = .ok (.iadd, 1) := by decide +kernel
theorem dX9_add_58 : decode cX9_add 58 = .ok (.putfield 47, 3) := by decide +kernel
theorem dX9_add_61 : decode cX9_add 61 = .ok (.return_, 1) := by decide +kernel
theorem dX9_init_0 : decode cX9_init 0 = .ok (.aload_n 0, 1) := by decide +kernel
theorem dX9_init_1 : decode cX9_init 1 = .ok (.invokespecial 3, 3) := by decide +kernel
theorem dX9_init_4 : decode cX9_init 4 = .ok (.aload_n 0, 1) := by decide +kernel
theorem dX9_init_5 : decode cX9_init 5 = .ok (.sipush 2003, 3) := by decide +kernel
theorem dX9_init_8 : decode cX9_init 8 = .ok (.newarray .int, 2) := by decide +kernel
theorem dX9_init_10 : decode cX9_init 10 = .ok (.putfield 11, 3) := by decide +kernel
theorem dX9_init_13 : decode cX9_init 13 = .ok (.aload_n 0, 1) := by decide +kernel
theorem dX9_init_14 : decode cX9_init 14 = .ok (.sipush 2003, 3) := by decide +kernel
theorem dX9_init_17 : decode cX9_init 17 = .ok (.newarray .int, 2) := by decide +kernel
theorem dX9_init_19 : decode cX9_init 19 = .ok (.putfield 15, 3) := by decide +kernel
theorem dX9_init_22 : decode cX9_init 22 = .ok (.aload_n 0, 1) := by decide +kernel
theorem dX9_init_23 : decode cX9_init 23 = .ok (.sipush 2003, 3) := by decide +kernel
theorem dX9_init_26 : decode cX9_init 26 = .ok (.newarray .int, 2) := by decide +kernel
theorem dX9_init_28 : decode cX9_init 28 = .ok (.putfield 18, 3) := by decide +kernel
theorem dX9_init_31 : decode cX9_init 31 = .ok (.aload_n 0, 1) := by decide +kernel
theorem dX9_init_32 : decode cX9_init 32 = .ok (.sipush 2003, 3) := by decide +kernel
theorem dX9_init_35 : decode cX9_init 35 = .ok (.newarray .int, 2) := by decide +kernel
theorem dX9_init_37 : decode cX9_init 37 = .ok (.putfield 21, 3) := by decide +kernel
theorem dX9_init_40 : decode cX9_init 40 = .ok (.aload_n 0, 1) := by decide +kernel
theorem dX9_init_41 : decode cX9_init 41 = .ok (.sipush 2003, 3) := by decide +kernel
theorem dX9_init_44 : decode cX9_init 44 = .ok (.newarray .int, 2) := by decide +kernel
theorem dX9_init_46 : decode cX9_init 46 = .ok (.putfield 24, 3) := by decide +kernel
theorem dX9_init_49 : decode cX9_init 49 = .ok (.aload_n 0, 1) := by decide +kernel
theorem dX9_init_50 : decode cX9_init 50 = .ok (.sipush 2003, 3) := by decide +kernel
theorem dX9_init_53 : decode cX9_init 53 = .ok (.newarray .int, 2) := by decide +kernel
theorem dX9_init_55 : decode cX9_init 55 = .ok (.putfield 27, 3) := by decide +kernel
theorem dX9_init_58 : decode cX9_init 58 = .ok (.aload_n 0, 1) := by decide +kernel
theorem dX9_init_59 : decode cX9_init 59 = .ok (.sipush 2003, 3) := by decide +kernel
theorem dX9_init_62 : decode cX9_init 62 = .ok (.newarray .int, 2) := by decide +kernel
theorem dX9_init_64 : decode cX9_init 64 = .ok (.putfield 30, 3) := by decide +kernel
theorem dX9_init_67 : decode cX9_init 67 = .ok (.aload_n 0, 1) := by decide +kernel
theorem dX9_init_68 : decode cX9_init 68 = .ok (.iconst 0, 1) := by decide +kernel
theorem dX9_init_69 : decode cX9_init 69 = .ok (.newarray .byte, 2) := by decide +kernel
theorem dX9_init_71 : decode cX9_init 71 = .ok (.putfield 33, 3) := by decide +kernel
theorem dX9_init_74 : decode cX9_init 74 = .ok (.return_, 1) := by decide +kernel
theorem dX9_readAll_0 : decode cX9_readAll 0 = .ok (.aload_n 0, 1) := by decide +kernel
theorem dX9_readAll_1 : decode cX9_readAll 1 = .ok (.aload_n 1, 1) := by decide +kernel
theorem dX9_readAll_2 : decode cX9_readAll 2 = .ok (.putfield 33, 3) := by decide +kernel
theorem dX9_readAll_5 : decode cX9_readAll 5 = .ok (.aload_n 0, 1) := by decide +kernel
theorem dX9_readAll_6 : decode cX9_readAll 6 = .ok (.iload_n 2, 1) := by decide +kernel
theorem dX9_readAll_7 : decode cX9_readAll 7 = .ok (.aload_n 1, 1) := by decide +kernel
theorem dX9_readAll_8 : decode cX9_readAll 8 = .ok (.arraylength, 1) := by decide +kernel
theorem dX9_readAll_9 : decode cX9_readAll 9 = .ok (.sipush 2000, 3) := by decide +kernel
theorem dX9_readAll_12 : decode cX9_readAll 12 = .ok (.invokestatic 37, 3) := by decide +kernel
theorem dX9_readAll_15 : decode cX9_readAll 15 = .ok (.invokestatic 37, 3) := by decide +kernel
theorem dX9_readAll_18 : decode cX9_readAll 18 = .ok (.putfield 43, 3) := by decide +kernel
theorem dX9_readAll_21 : decode cX9_readAll 21 = .ok (.aload_n 0, 1) := by decide +kernel
theorem dX9_readAll_22 : decode cX9_readAll 22 = .ok (.iconst 0, 1) := by decide +kernel
theorem dX9_readAll_23 : decode cX9_readAll 23 = .ok (.putfield 47, 3) := by decide +kernel
theorem dX9_readAll_26 : decode cX9_readAll 26 = .ok (.aload_n 0, 1) := by decide +kernel
theorem dX9_readAll_27 : decode cX9_readAll 27 = .ok (.iconst 0, 1) := by decide +kernel
theorem dX9_readAll_28 : decode cX9_readAll 28 = .ok (.putfield 50, 3) := by decide +kernel
theorem dX9_readAll_31 : decode cX9_readAll 31 = .ok (.aload_n 0, 1) := by decide +kernel
theorem dX9_readAll_32 : decode cX9_readAll 32 = .ok (.iconst 0, 1) := by decide +kernel
theorem dX9_readAll_33 : decode cX9_readAll 33 = .ok (.putfield 53, 3) := by decide +kernel
theorem dX9_readAll_36 : decode cX9_readAll 36 = .ok (.iconst 0, 1) := by decide +kernel
theorem dX9_readAll_37 : decode cX9_readAll 37 = .ok (.istore_n 3, 1) := by decide +kernel
theorem dX9_readAll_38 : decode cX9_readAll 38 = .ok (.iload_n 3, 1) := by decide +kernel
theorem dX9_readAll_39 : decode cX9_readAll 39 = .ok (.aload_n 0, 1) := by decide +kernel
theorem dX9_readAll_40 : decode cX9_readAll 40 = .ok (.getfield 43, 3) := by decide +kernel
theorem dX9_readAll_43 : decode cX9_readAll 43 = .ok (.if_icmp .ge 52, 3) := by decide +kernel
theorem dX9_readAll_95 : decode cX9_readAll 95 = .ok (.iconst 0, 1) := by decide +kernel
theorem dX9_readAll_96 : decode cX9_readAll 96 = .ok (.istore 4, 2) := by decide +kernel
theorem dX9_readAll_98 : decode cX9_readAll 98 = .ok (.iload 4, 2) := by decide +kernel
theorem dX9_readAll_100 : decode cX9_readAll 100 = .ok (.iconst 3, 1) := by decide +kernel
theorem dX9_readAll_101 : decode cX9_readAll 101 = .ok (.if_icmp .ge 20, 3) := by decide +kernel
theorem dX9_readAll_104 : decode cX9_readAll 104 = .ok (.aload_n 0, 1) := by decide +kernel
theorem dX9_readAll_105 : decode cX9_readAll 105 = .ok (.iconst 0, 1) := by decide +kernel
theorem dX9_readAll_106 : decode cX9_readAll 106 = .ok (.aload_n 0, 1) := by decide +kernel
theorem dX9_readAll_107 : decode cX9_readAll 107 = .ok (.getfield 43, 3) := by decide +kernel
theorem dX9_readAll_110 : decode cX9_readAll 110 = .ok (.iconst 0, 1) := by decide +kernel
theorem dX9_readAll_111 : decode cX9_readAll 111 = .ok (.iconst 0, 1) := by decide +kernel
theorem dX9_readAll_112 : decode cX9_readAll 112 = .ok (.invokevirtual 62, 3) := by decide +kernel
theorem dX9_readAll_115 : decode cX9_readAll 115 = .ok (.iinc 4 1, 3) := by decide +kernel
theorem dX9_readAll_118 : decode cX9_readAll 118 = .ok (.goto (-20), 3) := by decide +kernel
theorem dX9_readAll_121 : decode cX9_readAll 121 = .ok (.return_, 1) := by decide +kernel
