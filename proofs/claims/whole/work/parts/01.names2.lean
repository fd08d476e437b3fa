def wsX12_languageStates_r4 : List Cond := [Cond.selects RX12 yX12_putKey yX12_putKey, Cond.code yX12_putKey cX12_putKey 7 none, Cond.methodLink RX12 284 yX12_steppedCode, Cond.instanceMethod yX12_steppedCode, Cond.selects RX12 yX12_steppedCode yX12_steppedCode, Cond.code yX12_steppedCode cX12_steppedCode 10 (some .long), Cond.constantLong RX12 251 (10000), Cond.methodLink RX12 253 yX12_digitsOf, Cond.static yX12_digitsOf, Cond.code yX12_digitsOf cX12_digitsOf 6 (some .int), Cond.methodLink RX12 257 yX12_stepped, Cond.instanceMethod yX12_stepped, Cond.selects RX12 yX12_stepped yX12_stepped, Cond.code yX12_stepped cX12_stepped 7 (some .int), Cond.fieldLink RX12 101 "SubwordCounterModel" "digit" "[I", Cond.methodLink RX12 326 yX12_minimize, Cond.instanceMethod yX12_minimize, Cond.selects RX12 yX12_minimize yX12_minimize, Cond.code yX12_minimize cX12_minimize 3 none, Cond.fieldLink RX12 129 "SubwordCounterModel" "classOf" "[I", Cond.methodLink RX12 306 yX12_answerAt, Cond.instanceMethod yX12_answerAt, Cond.selects RX12 yX12_answerAt yX12_answerAt, Cond.code yX12_answerAt cX12_answerAt 5 (some .int)]
def wsX12_languageStates_r5 : List Cond := [Cond.fieldLink RX12 301 "SubwordCounterModel" "secondTruth" "I", Cond.methodLink RX12 288 yX12_valueAt, Cond.instanceMethod yX12_valueAt, Cond.selects RX12 yX12_valueAt yX12_valueAt, Cond.code yX12_valueAt cX12_valueAt 5 (some .int), Cond.methodLink RX12 313 yX12_refine, Cond.instanceMethod yX12_refine, Cond.selects RX12 yX12_refine yX12_refine, Cond.code yX12_refine cX12_refine 6 (some .int), Cond.constantLong RX12 304 (2048), Cond.fieldLink RX12 135 "SubwordCounterModel" "memberOf" "[I", Cond.fieldLink RX12 132 "SubwordCounterModel" "newClass" "[I"]
def wsX12_languageStates : List Cond := .code yX12_languageStates cX12_languageStates 3 (some .int) :: ((wsX12_languageStates_r1 ++ (wsX12_languageStates_r2 ++ (wsX12_languageStates_r3 ++ (wsX12_languageStates_r4 ++ wsX12_languageStates_r5)))) ++ wsX120)
def wsX12_countAll_r1 : List Cond := [Cond.fieldLink RX12 266 "SubwordCounterModel" "states" "I", Cond.fieldLink RX12 145 "SubwordCounterModel" "ways" "[J", Cond.fieldLink RX12 151 "SubwordCounterModel" "counted" "[J", Cond.fieldLink RX12 148 "SubwordCounterModel" "newWays" "[J", Cond.fieldLink RX12 7 "SubwordCounterModel" "letters" "I", Cond.fieldLink RX12 120 "SubwordCounterModel" "next" "[I", Cond.methodLink RX12 306 yX12_answerAt, Cond.instanceMethod yX12_answerAt, Cond.selects RX12 yX12_answerAt yX12_answerAt, Cond.initialized RX12, Cond.code yX12_answerAt cX12_answerAt 5 (some .int), Cond.fieldLink RX12 244 "SubwordCounterModel" "machineParts" "I", Cond.fieldLink RX12 95 "SubwordCounterModel" "machineValue" "[I", Cond.fieldLink RX12 291 "SubwordCounterModel" "firstTruth" "I", Cond.fieldLink RX12 294 "SubwordCounterModel" "firstParts" "I", Cond.fieldLink RX12 297 "SubwordCounterModel" "isPair" "Z", Cond.fieldLink RX12 301 "SubwordCounterModel" "secondTruth" "I", Cond.methodLink RX12 288 yX12_valueAt, Cond.instanceMethod yX12_valueAt, Cond.selects RX12 yX12_valueAt yX12_valueAt, Cond.code yX12_valueAt cX12_valueAt 5 (some .int), Cond.fieldLink RX12 104 "SubwordCounterModel" "codeA" "[J", Cond.fieldLink RX12 108 "SubwordCounterModel" "codeB" "[J", Cond.fieldLink RX12 92 "SubwordCounterModel" "machineLength" "[I"]
def wsX12_countAll_r2 : List Cond := [Cond.methodLink RX12 253 yX12_digitsOf, Cond.static yX12_digitsOf, Cond.code yX12_digitsOf cX12_digitsOf 6 (some .int), Cond.constantLong RX12 251 (10000)]
def wsX12_countAll : List Cond := .code yX12_countAll cX12_countAll 5 none :: ((wsX12_countAll_r1 ++ wsX12_countAll_r2) ++ wsX120)
def wsX12_countWords_r1 : List Cond := [Cond.constantLong RX12 348 (-1), Cond.fieldLink RX12 47 "SubwordCounterModel" "form" "[I", Cond.constantLong RX12 350 (-5), Cond.constantLong RX12 352 (-4), Cond.fieldLink RX12 151 "SubwordCounterModel" "counted" "[J", Cond.methodLink RX12 227 yX12_isLanguage, Cond.static yX12_isLanguage, Cond.initialized RX12, Cond.code yX12_isLanguage cX12_isLanguage 1 (some .boolean), Cond.methodLink RX12 169 yX12_isBetween, Cond.static yX12_isBetween, Cond.code yX12_isBetween cX12_isBetween 3 (some .boolean), Cond.methodLink RX12 345 yX12_buildsLanguage, Cond.instanceMethod yX12_buildsLanguage, Cond.selects RX12 yX12_buildsLanguage yX12_buildsLanguage, Cond.code yX12_buildsLanguage cX12_buildsLanguage 2 (some .boolean), Cond.fieldLink RX12 244 "SubwordCounterModel" "machineParts" "I", Cond.fieldLink RX12 297 "SubwordCounterModel" "isPair" "Z", Cond.fieldLink RX12 294 "SubwordCounterModel" "firstParts" "I", Cond.fieldLink RX12 53 "SubwordCounterModel" "truth" "[I", Cond.fieldLink RX12 291 "SubwordCounterModel" "firstTruth" "I", Cond.methodLink RX12 320 yX12_addLanguage, Cond.instanceMethod yX12_addLanguage, Cond.selects RX12 yX12_addLanguage yX12_addLanguage]
def wsX12_countWords_r2 : List Cond := [Cond.code yX12_addLanguage cX12_addLanguage 4 none, Cond.fieldLink RX12 50 "SubwordCounterModel" "parts" "[I", Cond.fieldLink RX12 56 "SubwordCounterModel" "partKind" "[I", Cond.fieldLink RX12 59 "SubwordCounterModel" "partBound" "[I", Cond.fieldLink RX12 62 "SubwordCounterModel" "partLength" "[I", Cond.fieldLink RX12 65 "SubwordCounterModel" "partValue" "[I", Cond.fieldLink RX12 68 "SubwordCounterModel" "partPattern" "[I", Cond.methodLink RX12 247 yX12_addPart, Cond.instanceMethod yX12_addPart, Cond.selects RX12 yX12_addPart yX12_addPart, Cond.code yX12_addPart cX12_addPart 9 none, Cond.fieldLink RX12 86 "SubwordCounterModel" "machineKind" "[I", Cond.fieldLink RX12 89 "SubwordCounterModel" "machineBound" "[I", Cond.fieldLink RX12 92 "SubwordCounterModel" "machineLength" "[I", Cond.fieldLink RX12 95 "SubwordCounterModel" "machineValue" "[I", Cond.fieldLink RX12 98 "SubwordCounterModel" "machinePattern" "[I", Cond.methodLink RX12 317 yX12_builds, Cond.instanceMethod yX12_builds, Cond.selects RX12 yX12_builds yX12_builds, Cond.code yX12_builds cX12_builds 8 (some .boolean), Cond.fieldLink RX12 266 "SubwordCounterModel" "states" "I", Cond.fieldLink RX12 7 "SubwordCounterModel" "letters" "I", Cond.fieldLink RX12 104 "SubwordCounterModel" "codeA" "[J", Cond.fieldLink RX12 108 "SubwordCounterModel" "codeB" "[J"]
def wsX12_countWords_r3 : List Cond := [Cond.fieldLink RX12 117 "SubwordCounterModel" "found" "[I", Cond.fieldLink RX12 120 "SubwordCounterModel" "next" "[I", Cond.methodLink RX12 273 yX12_clearKeys, Cond.instanceMethod yX12_clearKeys, Cond.selects RX12 yX12_clearKeys yX12_clearKeys, Cond.code yX12_clearKeys cX12_clearKeys 2 none, Cond.methodLink RX12 276 yX12_slotOf, Cond.instanceMethod yX12_slotOf, Cond.selects RX12 yX12_slotOf yX12_slotOf, Cond.code yX12_slotOf cX12_slotOf 6 (some .int), Cond.constantLong RX12 260 (1000003), Cond.constantLong RX12 262 (7919), Cond.constantLong RX12 264 (8191), Cond.fieldLink RX12 111 "SubwordCounterModel" "keyA" "[J", Cond.fieldLink RX12 114 "SubwordCounterModel" "keyB" "[J", Cond.methodLink RX12 280 yX12_addState, Cond.instanceMethod yX12_addState, Cond.selects RX12 yX12_addState yX12_addState, Cond.code yX12_addState cX12_addState 8 none, Cond.fieldLink RX12 123 "SubwordCounterModel" "before" "[I", Cond.fieldLink RX12 126 "SubwordCounterModel" "by" "[I", Cond.methodLink RX12 269 yX12_putKey, Cond.instanceMethod yX12_putKey, Cond.selects RX12 yX12_putKey yX12_putKey]
def wsX12_countWords_r4 : List Cond := [Cond.code yX12_putKey cX12_putKey 7 none, Cond.methodLink RX12 284 yX12_steppedCode, Cond.instanceMethod yX12_steppedCode, Cond.selects RX12 yX12_steppedCode yX12_steppedCode, Cond.code yX12_steppedCode cX12_steppedCode 10 (some .long), Cond.constantLong RX12 251 (10000), Cond.methodLink RX12 253 yX12_digitsOf, Cond.static yX12_digitsOf, Cond.code yX12_digitsOf cX12_digitsOf 6 (some .int), Cond.methodLink RX12 257 yX12_stepped, Cond.instanceMethod yX12_stepped, Cond.selects RX12 yX12_stepped yX12_stepped, Cond.code yX12_stepped cX12_stepped 7 (some .int), Cond.fieldLink RX12 101 "SubwordCounterModel" "digit" "[I", Cond.methodLink RX12 354 yX12_countAll, Cond.instanceMethod yX12_countAll, Cond.selects RX12 yX12_countAll yX12_countAll, Cond.code yX12_countAll cX12_countAll 5 none, Cond.fieldLink RX12 145 "SubwordCounterModel" "ways" "[J", Cond.fieldLink RX12 148 "SubwordCounterModel" "newWays" "[J", Cond.methodLink RX12 306 yX12_answerAt, Cond.instanceMethod yX12_answerAt, Cond.selects RX12 yX12_answerAt yX12_answerAt, Cond.code yX12_answerAt cX12_answerAt 5 (some .int)]
def wsX12_countWords_r5 : List Cond := [Cond.fieldLink RX12 301 "SubwordCounterModel" "secondTruth" "I", Cond.methodLink RX12 288 yX12_valueAt, Cond.instanceMethod yX12_valueAt, Cond.selects RX12 yX12_valueAt yX12_valueAt, Cond.code yX12_valueAt cX12_valueAt 5 (some .int)]
def wsX12_countWords : List Cond := .code yX12_countWords cX12_countWords 3 (some .long) :: ((wsX12_countWords_r1 ++ (wsX12_countWords_r2 ++ (wsX12_countWords_r3 ++ (wsX12_countWords_r4 ++ wsX12_countWords_r5)))) ++ wsX120)
def wsX12_firstInto_r1 : List Cond := [Cond.fieldLink RX12 266 "SubwordCounterModel" "states" "I", Cond.fieldLink RX12 123 "SubwordCounterModel" "before" "[I", Cond.fieldLink RX12 13 "SubwordCounterModel" "wordLength" "[I", Cond.fieldLink RX12 17 "SubwordCounterModel" "word" "[I", Cond.fieldLink RX12 126 "SubwordCounterModel" "by" "[I", Cond.methodLink RX12 306 yX12_answerAt, Cond.instanceMethod yX12_answerAt, Cond.selects RX12 yX12_answerAt yX12_answerAt, Cond.initialized RX12, Cond.code yX12_answerAt cX12_answerAt 5 (some .int), Cond.fieldLink RX12 244 "SubwordCounterModel" "machineParts" "I", Cond.fieldLink RX12 95 "SubwordCounterModel" "machineValue" "[I", Cond.fieldLink RX12 291 "SubwordCounterModel" "firstTruth" "I", Cond.fieldLink RX12 294 "SubwordCounterModel" "firstParts" "I", Cond.fieldLink RX12 297 "SubwordCounterModel" "isPair" "Z", Cond.fieldLink RX12 301 "SubwordCounterModel" "secondTruth" "I", Cond.methodLink RX12 288 yX12_valueAt, Cond.instanceMethod yX12_valueAt, Cond.selects RX12 yX12_valueAt yX12_valueAt, Cond.code yX12_valueAt cX12_valueAt 5 (some .int), Cond.fieldLink RX12 104 "SubwordCounterModel" "codeA" "[J", Cond.fieldLink RX12 108 "SubwordCounterModel" "codeB" "[J", Cond.fieldLink RX12 92 "SubwordCounterModel" "machineLength" "[I", Cond.methodLink RX12 253 yX12_digitsOf]
def wsX12_firstInto_r2 : List Cond := [Cond.static yX12_digitsOf, Cond.code yX12_digitsOf cX12_digitsOf 6 (some .int), Cond.constantLong RX12 251 (10000)]
def wsX12_firstInto : List Cond := .code yX12_firstInto cX12_firstInto 6 (some .int) :: ((wsX12_firstInto_r1 ++ wsX12_firstInto_r2) ++ wsX120)
def wsX12_firstWord_r1 : List Cond := [Cond.fieldLink RX12 47 "SubwordCounterModel" "form" "[I", Cond.methodLink RX12 227 yX12_isLanguage, Cond.static yX12_isLanguage, Cond.initialized RX12, Cond.code yX12_isLanguage cX12_isLanguage 1 (some .boolean), Cond.methodLink RX12 169 yX12_isBetween, Cond.static yX12_isBetween, Cond.code yX12_isBetween cX12_isBetween 3 (some .boolean), Cond.methodLink RX12 176 yX12_isWord, Cond.static yX12_isWord, Cond.code yX12_isWord cX12_isWord 1 (some .boolean), Cond.methodLink RX12 345 yX12_buildsLanguage, Cond.instanceMethod yX12_buildsLanguage, Cond.selects RX12 yX12_buildsLanguage yX12_buildsLanguage, Cond.code yX12_buildsLanguage cX12_buildsLanguage 2 (some .boolean), Cond.fieldLink RX12 244 "SubwordCounterModel" "machineParts" "I", Cond.fieldLink RX12 297 "SubwordCounterModel" "isPair" "Z", Cond.fieldLink RX12 294 "SubwordCounterModel" "firstParts" "I", Cond.fieldLink RX12 53 "SubwordCounterModel" "truth" "[I", Cond.fieldLink RX12 291 "SubwordCounterModel" "firstTruth" "I", Cond.methodLink RX12 320 yX12_addLanguage, Cond.instanceMethod yX12_addLanguage, Cond.selects RX12 yX12_addLanguage yX12_addLanguage, Cond.code yX12_addLanguage cX12_addLanguage 4 none]
def wsX12_firstWord_r2 : List Cond := [Cond.fieldLink RX12 50 "SubwordCounterModel" "parts" "[I", Cond.fieldLink RX12 56 "SubwordCounterModel" "partKind" "[I", Cond.fieldLink RX12 59 "SubwordCounterModel" "partBound" "[I", Cond.fieldLink RX12 62 "SubwordCounterModel" "partLength" "[I", Cond.fieldLink RX12 65 "SubwordCounterModel" "partValue" "[I", Cond.fieldLink RX12 68 "SubwordCounterModel" "partPattern" "[I", Cond.methodLink RX12 247 yX12_addPart, Cond.instanceMethod yX12_addPart, Cond.selects RX12 yX12_addPart yX12_addPart, Cond.code yX12_addPart cX12_addPart 9 none, Cond.fieldLink RX12 86 "SubwordCounterModel" "machineKind" "[I", Cond.fieldLink RX12 89 "SubwordCounterModel" "machineBound" "[I", Cond.fieldLink RX12 92 "SubwordCounterModel" "machineLength" "[I", Cond.fieldLink RX12 95 "SubwordCounterModel" "machineValue" "[I", Cond.fieldLink RX12 98 "SubwordCounterModel" "machinePattern" "[I", Cond.methodLink RX12 317 yX12_builds, Cond.instanceMethod yX12_builds, Cond.selects RX12 yX12_builds yX12_builds, Cond.code yX12_builds cX12_builds 8 (some .boolean), Cond.fieldLink RX12 266 "SubwordCounterModel" "states" "I", Cond.fieldLink RX12 7 "SubwordCounterModel" "letters" "I", Cond.fieldLink RX12 104 "SubwordCounterModel" "codeA" "[J", Cond.fieldLink RX12 108 "SubwordCounterModel" "codeB" "[J", Cond.fieldLink RX12 117 "SubwordCounterModel" "found" "[I"]
def wsX12_firstWord_r3 : List Cond := [Cond.fieldLink RX12 120 "SubwordCounterModel" "next" "[I", Cond.methodLink RX12 273 yX12_clearKeys, Cond.instanceMethod yX12_clearKeys, Cond.selects RX12 yX12_clearKeys yX12_clearKeys, Cond.code yX12_clearKeys cX12_clearKeys 2 none, Cond.methodLink RX12 276 yX12_slotOf, Cond.instanceMethod yX12_slotOf, Cond.selects RX12 yX12_slotOf yX12_slotOf, Cond.code yX12_slotOf cX12_slotOf 6 (some .int), Cond.constantLong RX12 260 (1000003), Cond.constantLong RX12 262 (7919), Cond.constantLong RX12 264 (8191), Cond.fieldLink RX12 111 "SubwordCounterModel" "keyA" "[J", Cond.fieldLink RX12 114 "SubwordCounterModel" "keyB" "[J", Cond.methodLink RX12 280 yX12_addState, Cond.instanceMethod yX12_addState, Cond.selects RX12 yX12_addState yX12_addState, Cond.code yX12_addState cX12_addState 8 none, Cond.fieldLink RX12 123 "SubwordCounterModel" "before" "[I", Cond.fieldLink RX12 126 "SubwordCounterModel" "by" "[I", Cond.methodLink RX12 269 yX12_putKey, Cond.instanceMethod yX12_putKey, Cond.selects RX12 yX12_putKey yX12_putKey, Cond.code yX12_putKey cX12_putKey 7 none]
def wsX12_firstWord_r4 : List Cond := [Cond.methodLink RX12 284 yX12_steppedCode, Cond.instanceMethod yX12_steppedCode, Cond.selects RX12 yX12_steppedCode yX12_steppedCode, Cond.code yX12_steppedCode cX12_steppedCode 10 (some .long), Cond.constantLong RX12 251 (10000), Cond.methodLink RX12 253 yX12_digitsOf, Cond.static yX12_digitsOf, Cond.code yX12_digitsOf cX12_digitsOf 6 (some .int), Cond.methodLink RX12 257 yX12_stepped, Cond.instanceMethod yX12_stepped, Cond.selects RX12 yX12_stepped yX12_stepped, Cond.code yX12_stepped cX12_stepped 7 (some .int), Cond.fieldLink RX12 101 "SubwordCounterModel" "digit" "[I", Cond.methodLink RX12 357 yX12_firstInto, Cond.instanceMethod yX12_firstInto, Cond.selects RX12 yX12_firstInto yX12_firstInto, Cond.code yX12_firstInto cX12_firstInto 6 (some .int), Cond.fieldLink RX12 13 "SubwordCounterModel" "wordLength" "[I", Cond.fieldLink RX12 17 "SubwordCounterModel" "word" "[I", Cond.methodLink RX12 306 yX12_answerAt, Cond.instanceMethod yX12_answerAt, Cond.selects RX12 yX12_answerAt yX12_answerAt, Cond.code yX12_answerAt cX12_answerAt 5 (some .int), Cond.fieldLink RX12 301 "SubwordCounterModel" "secondTruth" "I"]
def wsX12_firstWord_r5 : List Cond := [Cond.methodLink RX12 288 yX12_valueAt, Cond.instanceMethod yX12_valueAt, Cond.selects RX12 yX12_valueAt yX12_valueAt, Cond.code yX12_valueAt cX12_valueAt 5 (some .int)]
def wsX12_firstWord : List Cond := .code yX12_firstWord cX12_firstWord 3 (some .int) :: ((wsX12_firstWord_r1 ++ (wsX12_firstWord_r2 ++ (wsX12_firstWord_r3 ++ (wsX12_firstWord_r4 ++ wsX12_firstWord_r5)))) ++ wsX120)
def wsX12_firstDifference_r1 : List Cond := [Cond.fieldLink RX12 47 "SubwordCounterModel" "form" "[I", Cond.fieldLink RX12 244 "SubwordCounterModel" "machineParts" "I", Cond.fieldLink RX12 297 "SubwordCounterModel" "isPair" "Z", Cond.fieldLink RX12 294 "SubwordCounterModel" "firstParts" "I", Cond.fieldLink RX12 53 "SubwordCounterModel" "truth" "[I", Cond.fieldLink RX12 291 "SubwordCounterModel" "firstTruth" "I", Cond.fieldLink RX12 68 "SubwordCounterModel" "partPattern" "[I", Cond.fieldLink RX12 301 "SubwordCounterModel" "secondTruth" "I", Cond.methodLink RX12 227 yX12_isLanguage, Cond.static yX12_isLanguage, Cond.initialized RX12, Cond.code yX12_isLanguage cX12_isLanguage 1 (some .boolean), Cond.methodLink RX12 169 yX12_isBetween, Cond.static yX12_isBetween, Cond.code yX12_isBetween cX12_isBetween 3 (some .boolean), Cond.methodLink RX12 176 yX12_isWord, Cond.static yX12_isWord, Cond.code yX12_isWord cX12_isWord 1 (some .boolean), Cond.methodLink RX12 320 yX12_addLanguage, Cond.instanceMethod yX12_addLanguage, Cond.selects RX12 yX12_addLanguage yX12_addLanguage, Cond.code yX12_addLanguage cX12_addLanguage 4 none, Cond.fieldLink RX12 50 "SubwordCounterModel" "parts" "[I", Cond.fieldLink RX12 56 "SubwordCounterModel" "partKind" "[I"]
def wsX12_firstDifference_r2 : List Cond := [Cond.fieldLink RX12 59 "SubwordCounterModel" "partBound" "[I", Cond.fieldLink RX12 62 "SubwordCounterModel" "partLength" "[I", Cond.fieldLink RX12 65 "SubwordCounterModel" "partValue" "[I", Cond.methodLink RX12 247 yX12_addPart, Cond.instanceMethod yX12_addPart, Cond.selects RX12 yX12_addPart yX12_addPart, Cond.code yX12_addPart cX12_addPart 9 none, Cond.fieldLink RX12 86 "SubwordCounterModel" "machineKind" "[I", Cond.fieldLink RX12 89 "SubwordCounterModel" "machineBound" "[I", Cond.fieldLink RX12 92 "SubwordCounterModel" "machineLength" "[I", Cond.fieldLink RX12 95 "SubwordCounterModel" "machineValue" "[I", Cond.fieldLink RX12 98 "SubwordCounterModel" "machinePattern" "[I", Cond.methodLink RX12 317 yX12_builds, Cond.instanceMethod yX12_builds, Cond.selects RX12 yX12_builds yX12_builds, Cond.code yX12_builds cX12_builds 8 (some .boolean), Cond.fieldLink RX12 266 "SubwordCounterModel" "states" "I", Cond.fieldLink RX12 7 "SubwordCounterModel" "letters" "I", Cond.fieldLink RX12 104 "SubwordCounterModel" "codeA" "[J", Cond.fieldLink RX12 108 "SubwordCounterModel" "codeB" "[J", Cond.fieldLink RX12 117 "SubwordCounterModel" "found" "[I", Cond.fieldLink RX12 120 "SubwordCounterModel" "next" "[I", Cond.methodLink RX12 273 yX12_clearKeys, Cond.instanceMethod yX12_clearKeys]
def wsX12_firstDifference_r3 : List Cond := [Cond.selects RX12 yX12_clearKeys yX12_clearKeys, Cond.code yX12_clearKeys cX12_clearKeys 2 none, Cond.methodLink RX12 276 yX12_slotOf, Cond.instanceMethod yX12_slotOf, Cond.selects RX12 yX12_slotOf yX12_slotOf, Cond.code yX12_slotOf cX12_slotOf 6 (some .int), Cond.constantLong RX12 260 (1000003), Cond.constantLong RX12 262 (7919), Cond.constantLong RX12 264 (8191), Cond.fieldLink RX12 111 "SubwordCounterModel" "keyA" "[J", Cond.fieldLink RX12 114 "SubwordCounterModel" "keyB" "[J", Cond.methodLink RX12 280 yX12_addState, Cond.instanceMethod yX12_addState, Cond.selects RX12 yX12_addState yX12_addState, Cond.code yX12_addState cX12_addState 8 none, Cond.fieldLink RX12 123 "SubwordCounterModel" "before" "[I", Cond.fieldLink RX12 126 "SubwordCounterModel" "by" "[I", Cond.methodLink RX12 269 yX12_putKey, Cond.instanceMethod yX12_putKey, Cond.selects RX12 yX12_putKey yX12_putKey, Cond.code yX12_putKey cX12_putKey 7 none, Cond.methodLink RX12 284 yX12_steppedCode, Cond.instanceMethod yX12_steppedCode, Cond.selects RX12 yX12_steppedCode yX12_steppedCode]
def wsX12_firstDifference_r4 : List Cond := [Cond.code yX12_steppedCode cX12_steppedCode 10 (some .long), Cond.constantLong RX12 251 (10000), Cond.methodLink RX12 253 yX12_digitsOf, Cond.static yX12_digitsOf, Cond.code yX12_digitsOf cX12_digitsOf 6 (some .int), Cond.methodLink RX12 257 yX12_stepped, Cond.instanceMethod yX12_stepped, Cond.selects RX12 yX12_stepped yX12_stepped, Cond.code yX12_stepped cX12_stepped 7 (some .int), Cond.fieldLink RX12 101 "SubwordCounterModel" "digit" "[I", Cond.methodLink RX12 357 yX12_firstInto, Cond.instanceMethod yX12_firstInto, Cond.selects RX12 yX12_firstInto yX12_firstInto, Cond.code yX12_firstInto cX12_firstInto 6 (some .int), Cond.fieldLink RX12 13 "SubwordCounterModel" "wordLength" "[I", Cond.fieldLink RX12 17 "SubwordCounterModel" "word" "[I", Cond.methodLink RX12 306 yX12_answerAt, Cond.instanceMethod yX12_answerAt, Cond.selects RX12 yX12_answerAt yX12_answerAt, Cond.code yX12_answerAt cX12_answerAt 5 (some .int), Cond.methodLink RX12 288 yX12_valueAt, Cond.instanceMethod yX12_valueAt, Cond.selects RX12 yX12_valueAt yX12_valueAt, Cond.code yX12_valueAt cX12_valueAt 5 (some .int)]
def wsX12_firstDifference : List Cond := .code yX12_firstDifference cX12_firstDifference 4 (some .int) :: ((wsX12_firstDifference_r1 ++ (wsX12_firstDifference_r2 ++ (wsX12_firstDifference_r3 ++ wsX12_firstDifference_r4))) ++ wsX120)
def wsX12_isRow : List Cond := .code yX12_isRow cX12_isRow 1 (some .boolean) :: ([.methodLink RX12 169 yX12_isBetween, .static yX12_isBetween, .initialized RX12, .code yX12_isBetween cX12_isBetween 3 (some .boolean)])
def wsX12_setItem : List Cond := .code yX12_setItem cX12_setItem 5 none :: ([.fieldLink RX12 160 "SubwordCounterModel" "items" "[I", .fieldLink RX12 154 "SubwordCounterModel" "type" "[I"] ++ wsX120)
def wsX12_newRow : List Cond := .code yX12_newRow cX12_newRow 5 (some .int) :: ([.fieldLink RX12 154 "SubwordCounterModel" "type" "[I", .fieldLink RX12 157 "SubwordCounterModel" "rowLength" "[I", .fieldLink RX12 160 "SubwordCounterModel" "items" "[I", .methodLink RX12 360 yX12_isRow, .static yX12_isRow, .initialized RX12, .code yX12_isRow cX12_isRow 1 (some .boolean), .methodLink RX12 169 yX12_isBetween, .static yX12_isBetween, .code yX12_isBetween cX12_isBetween 3 (some .boolean)] ++ wsX120)
def wsX12_setElement : List Cond := .code yX12_setElement cX12_setElement 4 (some .int) :: ([.fieldLink RX12 154 "SubwordCounterModel" "type" "[I", .fieldLink RX12 157 "SubwordCounterModel" "rowLength" "[I", .methodLink RX12 360 yX12_isRow, .static yX12_isRow, .initialized RX12, .code yX12_isRow cX12_isRow 1 (some .boolean), .methodLink RX12 169 yX12_isBetween, .static yX12_isBetween, .code yX12_isBetween cX12_isBetween 3 (some .boolean), .methodLink RX12 363 yX12_setItem, .instanceMethod yX12_setItem, .selects RX12 yX12_setItem yX12_setItem, .code yX12_setItem cX12_setItem 5 none, .fieldLink RX12 160 "SubwordCounterModel" "items" "[I"] ++ wsX120)
def wsX12_element : List Cond := .code yX12_element cX12_element 3 (some .long) :: ([.fieldLink RX12 154 "SubwordCounterModel" "type" "[I", .fieldLink RX12 157 "SubwordCounterModel" "rowLength" "[I", .fieldLink RX12 160 "SubwordCounterModel" "items" "[I", .constantLong RX12 369 (-9223372036854775808), .methodLink RX12 360 yX12_isRow, .static yX12_isRow, .initialized RX12, .code yX12_isRow cX12_isRow 1 (some .boolean), .methodLink RX12 169 yX12_isBetween, .static yX12_isBetween, .code yX12_isBetween cX12_isBetween 3 (some .boolean)] ++ wsX120)
def wsX12_copyElements : List Cond := .code yX12_copyElements cX12_copyElements 7 (some .int) :: ([.fieldLink RX12 154 "SubwordCounterModel" "type" "[I", .fieldLink RX12 157 "SubwordCounterModel" "rowLength" "[I", .fieldLink RX12 163 "SubwordCounterModel" "moved" "[I", .fieldLink RX12 160 "SubwordCounterModel" "items" "[I", .methodLink RX12 360 yX12_isRow, .static yX12_isRow, .initialized RX12, .code yX12_isRow cX12_isRow 1 (some .boolean), .methodLink RX12 169 yX12_isBetween, .static yX12_isBetween, .code yX12_isBetween cX12_isBetween 3 (some .boolean)] ++ wsX120)
def wsX12_fillCounts_r1 : List Cond := [Cond.fieldLink RX12 47 "SubwordCounterModel" "form" "[I", Cond.fieldLink RX12 154 "SubwordCounterModel" "type" "[I", Cond.fieldLink RX12 157 "SubwordCounterModel" "rowLength" "[I", Cond.fieldLink RX12 151 "SubwordCounterModel" "counted" "[J", Cond.methodLink RX12 360 yX12_isRow, Cond.static yX12_isRow, Cond.initialized RX12, Cond.code yX12_isRow cX12_isRow 1 (some .boolean), Cond.methodLink RX12 169 yX12_isBetween, Cond.static yX12_isBetween, Cond.code yX12_isBetween cX12_isBetween 3 (some .boolean), Cond.methodLink RX12 227 yX12_isLanguage, Cond.static yX12_isLanguage, Cond.code yX12_isLanguage cX12_isLanguage 1 (some .boolean), Cond.methodLink RX12 345 yX12_buildsLanguage, Cond.instanceMethod yX12_buildsLanguage, Cond.selects RX12 yX12_buildsLanguage yX12_buildsLanguage, Cond.code yX12_buildsLanguage cX12_buildsLanguage 2 (some .boolean), Cond.fieldLink RX12 244 "SubwordCounterModel" "machineParts" "I", Cond.fieldLink RX12 297 "SubwordCounterModel" "isPair" "Z", Cond.fieldLink RX12 294 "SubwordCounterModel" "firstParts" "I", Cond.fieldLink RX12 53 "SubwordCounterModel" "truth" "[I", Cond.fieldLink RX12 291 "SubwordCounterModel" "firstTruth" "I", Cond.methodLink RX12 320 yX12_addLanguage]
def wsX12_fillCounts_r2 : List Cond := [Cond.instanceMethod yX12_addLanguage, Cond.selects RX12 yX12_addLanguage yX12_addLanguage, Cond.code yX12_addLanguage cX12_addLanguage 4 none, Cond.fieldLink RX12 50 "SubwordCounterModel" "parts" "[I", Cond.fieldLink RX12 56 "SubwordCounterModel" "partKind" "[I", Cond.fieldLink RX12 59 "SubwordCounterModel" "partBound" "[I", Cond.fieldLink RX12 62 "SubwordCounterModel" "partLength" "[I", Cond.fieldLink RX12 65 "SubwordCounterModel" "partValue" "[I", Cond.fieldLink RX12 68 "SubwordCounterModel" "partPattern" "[I", Cond.methodLink RX12 247 yX12_addPart, Cond.instanceMethod yX12_addPart, Cond.selects RX12 yX12_addPart yX12_addPart, Cond.code yX12_addPart cX12_addPart 9 none, Cond.fieldLink RX12 86 "SubwordCounterModel" "machineKind" "[I", Cond.fieldLink RX12 89 "SubwordCounterModel" "machineBound" "[I", Cond.fieldLink RX12 92 "SubwordCounterModel" "machineLength" "[I", Cond.fieldLink RX12 95 "SubwordCounterModel" "machineValue" "[I", Cond.fieldLink RX12 98 "SubwordCounterModel" "machinePattern" "[I", Cond.methodLink RX12 317 yX12_builds, Cond.instanceMethod yX12_builds, Cond.selects RX12 yX12_builds yX12_builds, Cond.code yX12_builds cX12_builds 8 (some .boolean), Cond.fieldLink RX12 266 "SubwordCounterModel" "states" "I", Cond.fieldLink RX12 7 "SubwordCounterModel" "letters" "I"]
def wsX12_fillCounts_r3 : List Cond := [Cond.fieldLink RX12 104 "SubwordCounterModel" "codeA" "[J", Cond.fieldLink RX12 108 "SubwordCounterModel" "codeB" "[J", Cond.fieldLink RX12 117 "SubwordCounterModel" "found" "[I", Cond.fieldLink RX12 120 "SubwordCounterModel" "next" "[I", Cond.methodLink RX12 273 yX12_clearKeys, Cond.instanceMethod yX12_clearKeys, Cond.selects RX12 yX12_clearKeys yX12_clearKeys, Cond.code yX12_clearKeys cX12_clearKeys 2 none, Cond.methodLink RX12 276 yX12_slotOf, Cond.instanceMethod yX12_slotOf, Cond.selects RX12 yX12_slotOf yX12_slotOf, Cond.code yX12_slotOf cX12_slotOf 6 (some .int), Cond.constantLong RX12 260 (1000003), Cond.constantLong RX12 262 (7919), Cond.constantLong RX12 264 (8191), Cond.fieldLink RX12 111 "SubwordCounterModel" "keyA" "[J", Cond.fieldLink RX12 114 "SubwordCounterModel" "keyB" "[J", Cond.methodLink RX12 280 yX12_addState, Cond.instanceMethod yX12_addState, Cond.selects RX12 yX12_addState yX12_addState, Cond.code yX12_addState cX12_addState 8 none, Cond.fieldLink RX12 123 "SubwordCounterModel" "before" "[I", Cond.fieldLink RX12 126 "SubwordCounterModel" "by" "[I", Cond.methodLink RX12 269 yX12_putKey]
def wsX12_fillCounts_r4 : List Cond := [Cond.instanceMethod yX12_putKey, Cond.selects RX12 yX12_putKey yX12_putKey, Cond.code yX12_putKey cX12_putKey 7 none, Cond.methodLink RX12 284 yX12_steppedCode, Cond.instanceMethod yX12_steppedCode, Cond.selects RX12 yX12_steppedCode yX12_steppedCode, Cond.code yX12_steppedCode cX12_steppedCode 10 (some .long), Cond.constantLong RX12 251 (10000), Cond.methodLink RX12 253 yX12_digitsOf, Cond.static yX12_digitsOf, Cond.code yX12_digitsOf cX12_digitsOf 6 (some .int), Cond.methodLink RX12 257 yX12_stepped, Cond.instanceMethod yX12_stepped, Cond.selects RX12 yX12_stepped yX12_stepped, Cond.code yX12_stepped cX12_stepped 7 (some .int), Cond.fieldLink RX12 101 "SubwordCounterModel" "digit" "[I", Cond.methodLink RX12 354 yX12_countAll, Cond.instanceMethod yX12_countAll, Cond.selects RX12 yX12_countAll yX12_countAll, Cond.code yX12_countAll cX12_countAll 5 none, Cond.fieldLink RX12 145 "SubwordCounterModel" "ways" "[J", Cond.fieldLink RX12 148 "SubwordCounterModel" "newWays" "[J", Cond.methodLink RX12 306 yX12_answerAt, Cond.instanceMethod yX12_answerAt]
def wsX12_fillCounts_r5 : List Cond := [Cond.selects RX12 yX12_answerAt yX12_answerAt, Cond.code yX12_answerAt cX12_answerAt 5 (some .int), Cond.fieldLink RX12 301 "SubwordCounterModel" "secondTruth" "I", Cond.methodLink RX12 288 yX12_valueAt, Cond.instanceMethod yX12_valueAt, Cond.selects RX12 yX12_valueAt yX12_valueAt, Cond.code yX12_valueAt cX12_valueAt 5 (some .int), Cond.methodLink RX12 363 yX12_setItem, Cond.instanceMethod yX12_setItem, Cond.selects RX12 yX12_setItem yX12_setItem, Cond.code yX12_setItem cX12_setItem 5 none, Cond.fieldLink RX12 160 "SubwordCounterModel" "items" "[I"]
def wsX12_fillCounts : List Cond := .code yX12_fillCounts cX12_fillCounts 4 (some .int) :: ((wsX12_fillCounts_r1 ++ (wsX12_fillCounts_r2 ++ (wsX12_fillCounts_r3 ++ (wsX12_fillCounts_r4 ++ wsX12_fillCounts_r5)))) ++ wsX120)
def wsX12_pass : List Cond := .code yX12_pass cX12_pass 3 (some .int) :: ([.fieldLink RX12 371 "SubwordCounterModel" "isSaving" "Z", .fieldLink RX12 166 "SubwordCounterModel" "saved" "[I", .fieldLink RX12 374 "SubwordCounterModel" "cursor" "I"] ++ wsX120)
def wsX12_passAll : List Cond := .code yX12_passAll cX12_passAll 3 none :: ([.methodLink RX12 377 yX12_pass, .instanceMethod yX12_pass, .selects RX12 yX12_pass yX12_pass, .initialized RX12, .code yX12_pass cX12_pass 3 (some .int), .fieldLink RX12 371 "SubwordCounterModel" "isSaving" "Z", .fieldLink RX12 166 "SubwordCounterModel" "saved" "[I", .fieldLink RX12 374 "SubwordCounterModel" "cursor" "I"] ++ wsX120)
def wsX12_passState_r1 : List Cond := [Cond.fieldLink RX12 371 "SubwordCounterModel" "isSaving" "Z", Cond.fieldLink RX12 374 "SubwordCounterModel" "cursor" "I", Cond.fieldLink RX12 7 "SubwordCounterModel" "letters" "I", Cond.fieldLink RX12 173 "SubwordCounterModel" "tests" "I", Cond.fieldLink RX12 13 "SubwordCounterModel" "wordLength" "[I", Cond.fieldLink RX12 17 "SubwordCounterModel" "word" "[I", Cond.fieldLink RX12 26 "SubwordCounterModel" "kind" "[I", Cond.fieldLink RX12 29 "SubwordCounterModel" "bound" "[I", Cond.fieldLink RX12 32 "SubwordCounterModel" "patternLength" "[I", Cond.fieldLink RX12 35 "SubwordCounterModel" "pattern" "[I", Cond.fieldLink RX12 47 "SubwordCounterModel" "form" "[I", Cond.fieldLink RX12 50 "SubwordCounterModel" "parts" "[I", Cond.fieldLink RX12 53 "SubwordCounterModel" "truth" "[I", Cond.fieldLink RX12 56 "SubwordCounterModel" "partKind" "[I", Cond.fieldLink RX12 59 "SubwordCounterModel" "partBound" "[I", Cond.fieldLink RX12 62 "SubwordCounterModel" "partLength" "[I", Cond.fieldLink RX12 65 "SubwordCounterModel" "partValue" "[I", Cond.fieldLink RX12 68 "SubwordCounterModel" "partPattern" "[I", Cond.methodLink RX12 377 yX12_pass, Cond.instanceMethod yX12_pass, Cond.selects RX12 yX12_pass yX12_pass, Cond.initialized RX12, Cond.code yX12_pass cX12_pass 3 (some .int), Cond.fieldLink RX12 166 "SubwordCounterModel" "saved" "[I"]
def wsX12_passState_r2 : List Cond := [Cond.methodLink RX12 380 yX12_passAll, Cond.instanceMethod yX12_passAll, Cond.selects RX12 yX12_passAll yX12_passAll, Cond.code yX12_passAll cX12_passAll 3 none]
def wsX12_passState : List Cond := .code yX12_passState cX12_passState 4 (some .int) :: ((wsX12_passState_r1 ++ wsX12_passState_r2) ++ wsX120)
def wsX12_saveSnapshot_r1 : List Cond := [Cond.fieldLink RX12 384 "SubwordCounterModel" "hasSnapshot" "Z", Cond.methodLink RX12 387 yX12_passState, Cond.instanceMethod yX12_passState, Cond.selects RX12 yX12_passState yX12_passState, Cond.initialized RX12, Cond.code yX12_passState cX12_passState 4 (some .int), Cond.fieldLink RX12 371 "SubwordCounterModel" "isSaving" "Z", Cond.fieldLink RX12 374 "SubwordCounterModel" "cursor" "I", Cond.fieldLink RX12 7 "SubwordCounterModel" "letters" "I", Cond.fieldLink RX12 173 "SubwordCounterModel" "tests" "I", Cond.fieldLink RX12 13 "SubwordCounterModel" "wordLength" "[I", Cond.fieldLink RX12 17 "SubwordCounterModel" "word" "[I", Cond.fieldLink RX12 26 "SubwordCounterModel" "kind" "[I", Cond.fieldLink RX12 29 "SubwordCounterModel" "bound" "[I", Cond.fieldLink RX12 32 "SubwordCounterModel" "patternLength" "[I", Cond.fieldLink RX12 35 "SubwordCounterModel" "pattern" "[I", Cond.fieldLink RX12 47 "SubwordCounterModel" "form" "[I", Cond.fieldLink RX12 50 "SubwordCounterModel" "parts" "[I", Cond.fieldLink RX12 53 "SubwordCounterModel" "truth" "[I", Cond.fieldLink RX12 56 "SubwordCounterModel" "partKind" "[I", Cond.fieldLink RX12 59 "SubwordCounterModel" "partBound" "[I", Cond.fieldLink RX12 62 "SubwordCounterModel" "partLength" "[I", Cond.fieldLink RX12 65 "SubwordCounterModel" "partValue" "[I", Cond.fieldLink RX12 68 "SubwordCounterModel" "partPattern" "[I"]
def wsX12_saveSnapshot_r2 : List Cond := [Cond.methodLink RX12 377 yX12_pass, Cond.instanceMethod yX12_pass, Cond.selects RX12 yX12_pass yX12_pass, Cond.code yX12_pass cX12_pass 3 (some .int), Cond.fieldLink RX12 166 "SubwordCounterModel" "saved" "[I", Cond.methodLink RX12 380 yX12_passAll, Cond.instanceMethod yX12_passAll, Cond.selects RX12 yX12_passAll yX12_passAll, Cond.code yX12_passAll cX12_passAll 3 none]
def wsX12_saveSnapshot : List Cond := .code yX12_saveSnapshot cX12_saveSnapshot 1 (some .int) :: ((wsX12_saveSnapshot_r1 ++ wsX12_saveSnapshot_r2) ++ wsX120)
def wsX12_restoreSnapshot_r1 : List Cond := [Cond.fieldLink RX12 384 "SubwordCounterModel" "hasSnapshot" "Z", Cond.methodLink RX12 387 yX12_passState, Cond.instanceMethod yX12_passState, Cond.selects RX12 yX12_passState yX12_passState, Cond.initialized RX12, Cond.code yX12_passState cX12_passState 4 (some .int), Cond.fieldLink RX12 371 "SubwordCounterModel" "isSaving" "Z", Cond.fieldLink RX12 374 "SubwordCounterModel" "cursor" "I", Cond.fieldLink RX12 7 "SubwordCounterModel" "letters" "I", Cond.fieldLink RX12 173 "SubwordCounterModel" "tests" "I", Cond.fieldLink RX12 13 "SubwordCounterModel" "wordLength" "[I", Cond.fieldLink RX12 17 "SubwordCounterModel" "word" "[I", Cond.fieldLink RX12 26 "SubwordCounterModel" "kind" "[I", Cond.fieldLink RX12 29 "SubwordCounterModel" "bound" "[I", Cond.fieldLink RX12 32 "SubwordCounterModel" "patternLength" "[I", Cond.fieldLink RX12 35 "SubwordCounterModel" "pattern" "[I", Cond.fieldLink RX12 47 "SubwordCounterModel" "form" "[I", Cond.fieldLink RX12 50 "SubwordCounterModel" "parts" "[I", Cond.fieldLink RX12 53 "SubwordCounterModel" "truth" "[I", Cond.fieldLink RX12 56 "SubwordCounterModel" "partKind" "[I", Cond.fieldLink RX12 59 "SubwordCounterModel" "partBound" "[I", Cond.fieldLink RX12 62 "SubwordCounterModel" "partLength" "[I", Cond.fieldLink RX12 65 "SubwordCounterModel" "partValue" "[I", Cond.fieldLink RX12 68 "SubwordCounterModel" "partPattern" "[I"]
def wsX12_restoreSnapshot_r2 : List Cond := [Cond.methodLink RX12 377 yX12_pass, Cond.instanceMethod yX12_pass, Cond.selects RX12 yX12_pass yX12_pass, Cond.code yX12_pass cX12_pass 3 (some .int), Cond.fieldLink RX12 166 "SubwordCounterModel" "saved" "[I", Cond.methodLink RX12 380 yX12_passAll, Cond.instanceMethod yX12_passAll, Cond.selects RX12 yX12_passAll yX12_passAll, Cond.code yX12_passAll cX12_passAll 3 none]
def wsX12_restoreSnapshot : List Cond := .code yX12_restoreSnapshot cX12_restoreSnapshot 1 (some .int) :: ((wsX12_restoreSnapshot_r1 ++ wsX12_restoreSnapshot_r2) ++ wsX120)
def wsJ9_max_7cf53 : List Cond := .code yJ9_max_7cf53 cJ9_max_7cf53 2 (some .int) :: ([])
def wsJ9_min_7cf53 : List Cond := .code yJ9_min_7cf53 cJ9_min_7cf53 2 (some .int) :: ([])
set_option maxRecDepth 20000 in
theorem ggX0_init_X1_init : GoodIn wsX0_init wsX1_init := goodIn_r _ [23, 24, 2, 3, 25, 26, 27, 28, 29] (by decide +kernel) (by decide +kernel)
set_option maxRecDepth 20000 in
theorem gX0_init_X1_init_n11 : GoodIn wsX0_init (wsX1_init) := ggX0_init_X1_init
theorem dX0_init_0 : decode cX0_init 0 = .ok (.aload_n 0, 1) := by decide +kernel
theorem dX0_init_1 : decode cX0_init 1 = .ok (.invokespecial 3, 3) := by decide +kernel
theorem dX0_init_4 : decode cX0_init 4 = .ok (.aload_n 0, 1) := by decide +kernel
theorem dX0_init_5 : decode cX0_init 5 = .ok (.new 9, 3) := by decide +kernel
theorem dX0_init_8 : decode cX0_init 8 = .ok (.dup, 1) := by decide +kernel
theorem dX0_init_9 : decode cX0_init 9 = .ok (.invokespecial 11, 3) := by decide +kernel
theorem dX0_init_12 : decode cX0_init 12 = .ok (.putfield 12, 3) := by decide +kernel
theorem dX0_init_15 : decode cX0_init 15 = .ok (.aload_n 0, 1) := by decide +kernel
theorem dX0_init_16 : decode cX0_init 16 = .ok (.iconst 1, 1) := by decide +kernel
theorem dX0_init_17 : decode cX0_init 17 = .ok (.putfield 18, 3) := by decide +kernel
theorem dX0_init_20 : decode cX0_init 20 = .ok (.aload_n 0, 1) := by decide +kernel
theorem dX0_init_21 : decode cX0_init 21 = .ok (.iconst 0, 1) := by decide +kernel
theorem dX0_init_22 : decode cX0_init 22 = .ok (.putfield 22, 3) := by decide +kernel
theorem dX0_init_25 : decode cX0_init 25 = .ok (.aload_n 0, 1) := by decide +kernel
theorem dX0_init_26 : decode cX0_init 26 = .ok (.sipush 6000, 3) := by decide +kernel
theorem dX0_init_29 : decode cX0_init 29 = .ok (.newarray .int, 2) := by decide +kernel
theorem dX0_init_31 : decode cX0_init 31 = .ok (.putfield 25, 3) := by decide +kernel
theorem dX0_init_34 : decode cX0_init 34 = .ok (.aload_n 0, 1) := by decide +kernel
theorem dX0_init_35 : decode cX0_init 35 = .ok (.sipush 2000, 3) := by decide +kernel
theorem dX0_init_38 : decode cX0_init 38 = .ok (.newarray .int, 2) := by decide +kernel
theorem dX0_init_40 : decode cX0_init 40 = .ok (.putfield 29, 3) := by decide +kernel
theorem dX0_init_43 : decode cX0_init 43 = .ok (.aload_n 0, 1) := by decide +kernel
theorem dX0_init_44 : decode cX0_init 44 = .ok (.sipush 2000, 3) := by decide +kernel
theorem dX0_init_47 : decode cX0_init 47 = .ok (.newarray .int, 2) := by decide +kernel
theorem dX0_init_49 : decode cX0_init 49 = .ok (.putfield 32, 3) := by decide +kernel
theorem dX0_init_52 : decode cX0_init 52 = .ok (.aload_n 0, 1) := by decide +kernel
theorem dX0_init_53 : decode cX0_init 53 = .ok (.sipush 2000, 3) := by decide +kernel
theorem dX0_init_56 : decode cX0_init 56 = .ok (.newarray .long, 2) := by decide +kernel
theorem dX0_init_58 : decode cX0_init 58 = .ok (.putfield 35, 3) := by decide +kernel
theorem dX0_init_61 : decode cX0_init 61 = .ok (.aload_n 0, 1) := by decide +kernel
theorem dX0_init_62 : decode cX0_init 62 = .ok (.sipush 2000, 3) := by decide +kernel
theorem dX0_init_65 : decode cX0_init 65 = .ok (.newarray .long, 2) := by decide +kernel
theorem dX0_init_67 : decode cX0_init 67 = .ok (.putfield 39, 3) := by decide +kernel
theorem dX0_init_70 : decode cX0_init 70 = .ok (.aload_n 0, 1) := by decide +kernel
theorem dX0_init_71 : decode cX0_init 71 = .ok (.sipush 2000, 3) := by decide +kernel
theorem dX0_init_74 : decode cX0_init 74 = .ok (.newarray .int, 2) := by decide +kernel
theorem dX0_init_76 : decode cX0_init 76 = .ok (.putfield 42, 3) := by decide +kernel
theorem dX0_init_79 : decode cX0_init 79 = .ok (.aload_n 0, 1) := by decide +kernel
theorem dX0_init_80 : decode cX0_init 80 = .ok (.sipush 2000, 3) := by decide +kernel
theorem dX0_init_83 : decode cX0_init 83 = .ok (.newarray .int, 2) := by decide +kernel
theorem dX0_init_85 : decode cX0_init 85 = .ok (.putfield 45, 3) := by decide +kernel
theorem dX0_init_88 : decode cX0_init 88 = .ok (.aload_n 0, 1) := by decide +kernel
theorem dX0_init_89 : decode cX0_init 89 = .ok (.sipush 4096, 3) := by decide +kernel
theorem dX0_init_92 : decode cX0_init 92 = .ok (.newarray .int, 2) := by decide +kernel
theorem dX0_init_94 : decode cX0_init 94 = .ok (.putfield 48, 3) := by decide +kernel
theorem dX0_init_97 : decode cX0_init 97 = .ok (.aload_n 0, 1) := by decide +kernel
theorem dX0_init_98 : decode cX0_init 98 = .ok (.sipush 2000, 3) := by decide +kernel
theorem dX0_init_101 : decode cX0_init 101 = .ok (.newarray .long, 2) := by decide +kernel
theorem dX0_init_103 : decode cX0_init 103 = .ok (.putfield 51, 3) := by decide +kernel
theorem dX0_init_106 : decode cX0_init 106 = .ok (.aload_n 0, 1) := by decide +kernel
theorem dX0_init_107 : decode cX0_init 107 = .ok (.sipush 2000, 3) := by decide +kernel
theorem dX0_init_110 : decode cX0_init 110 = .ok (.newarray .long, 2) := by decide +kernel
theorem dX0_init_112 : decode cX0_init 112 = .ok (.putfield 54, 3) := by decide +kernel
theorem dX0_init_115 : decode cX0_init 115 = .ok (.return_, 1) := by decide +kernel
theorem dX0_restart_0 : decode cX0_restart 0 = .ok (.aload_n 0, 1) := by decide +kernel
theorem dX0_restart_1 : decode cX0_restart 1 = .ok (.iload_n 1, 1) := by decide +kernel
theorem dX0_restart_2 : decode cX0_restart 2 = .ok (.putfield 18, 3) := by decide +kernel
theorem dX0_restart_5 : decode cX0_restart 5 = .ok (.aload_n 0, 1) := by decide +kernel
theorem dX0_restart_6 : decode cX0_restart 6 = .ok (.getfield 12, 3) := by decide +kernel
theorem dX0_restart_9 : decode cX0_restart 9 = .ok (.iconst 0, 1) := by decide +kernel
theorem dX0_restart_10 : decode cX0_restart 10 = .ok (.putfield 57, 3) := by decide +kernel
theorem dX0_restart_13 : decode cX0_restart 13 = .ok (.aload_n 0, 1) := by decide +kernel
theorem dX0_restart_14 : decode cX0_restart 14 = .ok (.iconst 0, 1) := by decide +kernel
theorem dX0_restart_15 : decode cX0_restart 15 = .ok (.putfield 22, 3) := by decide +kernel
theorem dX0_restart_18 : decode cX0_restart 18 = .ok (.return_, 1) := by decide +kernel
set_option maxRecDepth 20000 in
theorem ggX0_explore_J7_fill_53178 : GoodIn wsX0_explore wsJ7_fill_53178 := goodIn_r _ [14] (by decide +kernel) (by decide +kernel)
set_option maxRecDepth 20000 in
theorem gX0_explore_J7_fill_53178 : GoodIn wsX0_explore (va_wsS RX0 60 yJ7_fill_53178 wsJ7_fill_53178) := goodIn_app (goodIn_of _ (by decide +kernel)) ggX0_explore_J7_fill_53178
set_option maxRecDepth 20000 in
theorem ggX0_explore_X0_reach : GoodIn wsX0_explore wsX0_reach := goodIn_r _ [19, 20, 21, 22, 1, 6, 7, 23, 24, 25, 18, 26, 3, 52, 53, 54, 55, 56, 57, 58, 59, 60, 61, 62, 63, 64] (by decide +kernel) (by decide +kernel)
set_option maxRecDepth 20000 in
theorem gX0_explore_X0_reach : GoodIn wsX0_explore (wsV RX0 66 RX0 yX0_reach wsX0_reach) := goodIn_app (goodIn_of _ (by decide +kernel)) ggX0_explore_X0_reach
set_option maxRecDepth 20000 in
theorem ggX0_explore_X1_step : GoodIn wsX0_explore wsX1_step := goodIn_r _ [31, 32, 33, 34, 35, 36, 37, 38, 39, 40, 41, 42, 43, 44, 45, 46, 47, 48, 49, 50, 51, 65, 66, 67, 68, 69, 70, 71] (by decide +kernel) (by decide +kernel)
set_option maxRecDepth 20000 in
theorem gX0_explore_X1_step : GoodIn wsX0_explore (wsV RX0 70 RX1 yX1_step wsX1_step) := goodIn_app (goodIn_of _ (by decide +kernel)) ggX0_explore_X1_step
theorem dX0_explore_0 : decode cX0_explore 0 = .ok (.aload_n 0, 1) := by decide +kernel
theorem dX0_explore_1 : decode cX0_explore 1 = .ok (.getfield 48, 3) := by decide +kernel
theorem dX0_explore_4 : decode cX0_explore 4 = .ok (.iconst (-1), 1) := by decide +kernel
theorem dX0_explore_5 : decode cX0_explore 5 = .ok (.invokestatic 60, 3) := by decide +kernel
theorem dX0_explore_8 : decode cX0_explore 8 = .ok (.aload_n 0, 1) := by decide +kernel
theorem dX0_explore_9 : decode cX0_explore 9 = .ok (.getfield 32, 3) := by decide +kernel
theorem dX0_explore_12 : decode cX0_explore 12 = .ok (.iconst 0, 1) := by decide +kernel
theorem dX0_explore_13 : decode cX0_explore 13 = .ok (.iconst 0, 1) := by decide +kernel
theorem dX0_explore_14 : decode cX0_explore 14 = .ok (.iastore, 1) := by decide +kernel
theorem dX0_explore_15 : decode cX0_explore 15 = .ok (.aload_n 0, 1) := by decide +kernel
theorem dX0_explore_16 : decode cX0_explore 16 = .ok (.lconst 0, 1) := by decide +kernel
theorem dX0_explore_17 : decode cX0_explore 17 = .ok (.lconst 0, 1) := by decide +kernel
theorem dX0_explore_18 : decode cX0_explore 18 = .ok (.invokevirtual 66, 3) := by decide +kernel
theorem dX0_explore_21 : decode cX0_explore 21 = .ok (.pop, 1) := by decide +kernel
theorem dX0_explore_22 : decode cX0_explore 22 = .ok (.iconst 0, 1) := by decide +kernel
theorem dX0_explore_23 : decode cX0_explore 23 = .ok (.istore_n 1, 1) := by decide +kernel
theorem dX0_explore_24 : decode cX0_explore 24 = .ok (.iload_n 1, 1) := by decide +kernel
theorem dX0_explore_25 : decode cX0_explore 25 = .ok (.sipush 2000, 3) := by decide +kernel
theorem dX0_explore_28 : decode cX0_explore 28 = .ok (.if_icmp .ge 130, 3) := by decide +kernel
theorem dX0_explore_31 : decode cX0_explore 31 = .ok (.iload_n 1, 1) := by decide +kernel
theorem dX0_explore_32 : decode cX0_explore 32 = .ok (.aload_n 0, 1) := by decide +kernel
theorem dX0_explore_33 : decode cX0_explore 33 = .ok (.getfield 22, 3) := by decide +kernel
theorem dX0_explore_36 : decode cX0_explore 36 = .ok (.if_icmp .ge 122, 3) := by decide +kernel
theorem dX0_explore_39 : decode cX0_explore 39 = .ok (.iconst 0, 1) := by decide +kernel
theorem dX0_explore_40 : decode cX0_explore 40 = .ok (.istore_n 2, 1) := by decide +kernel
theorem dX0_explore_41 : decode cX0_explore 41 = .ok (.iload_n 2, 1) := by decide +kernel
theorem dX0_explore_42 : decode cX0_explore 42 = .ok (.aload_n 0, 1) := by decide +kernel
theorem dX0_explore_43 : decode cX0_explore 43 = .ok (.getfield 18, 3) := by decide +kernel
theorem dX0_explore_46 : decode cX0_explore 46 = .ok (.if_icmp .ge 106, 3) := by decide +kernel
theorem dX0_explore_49 : decode cX0_explore 49 = .ok (.aload_n 0, 1) := by decide +kernel
theorem dX0_explore_50 : decode cX0_explore 50 = .ok (.getfield 22, 3) := by decide +kernel
theorem dX0_explore_53 : decode cX0_explore 53 = .ok (.istore_n 3, 1) := by decide +kernel
theorem dX0_explore_54 : decode cX0_explore 54 = .ok (.aload_n 0, 1) := by decide +kernel
theorem dX0_explore_55 : decode cX0_explore 55 = .ok (.aload_n 0, 1) := by decide +kernel
theorem dX0_explore_56 : decode cX0_explore 56 = .ok (.getfield 12, 3) := by decide +kernel
theorem dX0_explore_59 : decode cX0_explore 59 = .ok (.iconst 0, 1) := by decide +kernel
theorem dX0_explore_60 : decode cX0_explore 60 = .ok (.aload_n 0, 1) := by decide +kernel
theorem dX0_explore_61 : decode cX0_explore 61 = .ok (.getfield 35, 3) := by decide +kernel
theorem dX0_explore_64 : decode cX0_explore 64 = .ok (.iload_n 1, 1) := by decide +kernel
theorem dX0_explore_65 : decode cX0_explore 65 = .ok (.laload, 1) := by decide +kernel
theorem dX0_explore_66 : decode cX0_explore 66 = .ok (.iload_n 2, 1) := by decide +kernel
theorem dX0_explore_67 : decode cX0_explore 67 = .ok (.invokevirtual 70, 3) := by decide +kernel
theorem dX0_explore_70 : decode cX0_explore 70 = .ok (.aload_n 0, 1) := by decide +kernel
theorem dX0_explore_71 : decode cX0_explore 71 = .ok (.getfield 12, 3) := by decide +kernel
theorem dX0_explore_74 : decode cX0_explore 74 = .ok (.iconst 1, 1) := by decide +kernel
theorem dX0_explore_75 : decode cX0_explore 75 = .ok (.aload_n 0, 1) := by decide +kernel
theorem dX0_explore_76 : decode cX0_explore 76 = .ok (.getfield 39, 3) := by decide +kernel
theorem dX0_explore_79 : decode cX0_explore 79 = .ok (.iload_n 1, 1) := by decide +kernel
theorem dX0_explore_80 : decode cX0_explore 80 = .ok (.laload, 1) := by decide +kernel
theorem dX0_explore_81 : decode cX0_explore 81 = .ok (.iload_n 2, 1) := by decide +kernel
theorem dX0_explore_82 : decode cX0_explore 82 = .ok (.invokevirtual 70, 3) := by decide +kernel
theorem dX0_explore_85 : decode cX0_explore 85 = .ok (.invokevirtual 66, 3) := by decide +kernel
theorem dX0_explore_88 : decode cX0_explore 88 = .ok (.istore 4, 2) := by decide +kernel
theorem dX0_explore_90 : decode cX0_explore 90 = .ok (.iload 4, 2) := by decide +kernel
theorem dX0_explore_92 : decode cX0_explore 92 = .ok (.ifCond .ge 5, 3) := by decide +kernel
theorem dX0_explore_95 : decode cX0_explore 95 = .ok (.iconst 0, 1) := by decide +kernel
theorem dX0_explore_96 : decode cX0_explore 96 = .ok (.ireturn, 1) := by decide +kernel
theorem dX0_explore_97 : decode cX0_explore 97 = .ok (.aload_n 0, 1) := by decide +kernel
theorem dX0_explore_98 : decode cX0_explore 98 = .ok (.getfield 25, 3) := by decide +kernel
theorem dX0_explore_101 : decode cX0_explore 101 = .ok (.iload_n 1, 1) := by decide +kernel
theorem dX0_explore_102 : decode cX0_explore 102 = .ok (.iconst 3, 1) := by decide +kernel
theorem dX0_explore_103 : decode cX0_explore 103 = .ok (.imul, 1) := by decide +kernel
theorem dX0_explore_104 : decode cX0_explore 104 = .ok (.iload_n 2, 1) := by decide +kernel
theorem dX0_explore_105 : decode cX0_explore 105 = .ok (.iadd, 1) := by decide +kernel
theorem dX0_explore_106 : decode cX0_explore 106 = .ok (.iload 4, 2) := by decide +kernel
theorem dX0_explore_108 : decode cX0_explore 108 = .ok (.iastore, 1) := by decide +kernel
theorem dX0_explore_109 : decode cX0_explore 109 = .ok (.iload 4, 2) := by decide +kernel
theorem dX0_explore_111 : decode cX0_explore 111 = .ok (.iload_n 3, 1) := by decide +kernel
theorem dX0_explore_112 : decode cX0_explore 112 = .ok (.if_icmp .ne 34, 3) := by decide +kernel
theorem dX0_explore_115 : decode cX0_explore 115 = .ok (.aload_n 0, 1) := by decide +kernel
theorem dX0_explore_116 : decode cX0_explore 116 = .ok (.getfield 42, 3) := by decide +kernel
theorem dX0_explore_119 : decode cX0_explore 119 = .ok (.iload 4, 2) := by decide +kernel
theorem dX0_explore_121 : decode cX0_explore 121 = .ok (.iload_n 1, 1) := by decide +kernel
theorem dX0_explore_122 : decode cX0_explore 122 = .ok (.iastore, 1) := by decide +kernel
theorem dX0_explore_123 : decode cX0_explore 123 = .ok (.aload_n 0, 1) := by decide +kernel
theorem dX0_explore_124 : decode cX0_explore 124 = .ok (.getfield 45, 3) := by decide +kernel
theorem dX0_explore_127 : decode cX0_explore 127 = .ok (.iload 4, 2) := by decide +kernel
theorem dX0_explore_129 : decode cX0_explore 129 = .ok (.iload_n 2, 1) := by decide +kernel
theorem dX0_explore_130 : decode cX0_explore 130 = .ok (.iastore, 1) := by decide +kernel
theorem dX0_explore_131 : decode cX0_explore 131 = .ok (.aload_n 0, 1) := by decide +kernel
theorem dX0_explore_132 : decode cX0_explore 132 = .ok (.getfield 32, 3) := by decide +kernel
theorem dX0_explore_135 : decode cX0_explore 135 = .ok (.iload 4, 2) := by decide +kernel
theorem dX0_explore_137 : decode cX0_explore 137 = .ok (.aload_n 0, 1) := by decide +kernel
theorem dX0_explore_138 : decode cX0_explore 138 = .ok (.getfield 32, 3) := by decide +kernel
theorem dX0_explore_141 : decode cX0_explore 141 = .ok (.iload_n 1, 1) := by decide +kernel
theorem dX0_explore_142 : decode cX0_explore 142 = .ok (.iaload, 1) := by decide +kernel
theorem dX0_explore_143 : decode cX0_explore 143 = .ok (.iconst 1, 1) := by decide +kernel
theorem dX0_explore_144 : decode cX0_explore 144 = .ok (.iadd, 1) := by decide +kernel
theorem dX0_explore_145 : decode cX0_explore 145 = .ok (.iastore, 1) := by decide +kernel
theorem dX0_explore_146 : decode cX0_explore 146 = .ok (.iinc 2 1, 3) := by decide +kernel
theorem dX0_explore_149 : decode cX0_explore 149 = .ok (.goto (-108), 3) := by decide +kernel
theorem dX0_explore_152 : decode cX0_explore 152 = .ok (.iinc 1 1, 3) := by decide +kernel
theorem dX0_explore_155 : decode cX0_explore 155 = .ok (.goto (-131), 3) := by decide +kernel
theorem dX0_explore_158 : decode cX0_explore 158 = .ok (.iconst 1, 1) := by decide +kernel
theorem dX0_explore_159 : decode cX0_explore 159 = .ok (.ireturn, 1) := by decide +kernel
set_option maxRecDepth 20000 in
theorem ggX0_reach_X0_settle : GoodIn wsX0_reach wsX0_settle := goodIn_r _ [11, 12, 4, 5, 6, 13, 14, 15, 16, 17, 18, 19, 20, 21, 22, 23, 24, 25] (by decide +kernel) (by decide +kernel)
set_option maxRecDepth 20000 in
theorem gX0_reach_X0_settle : GoodIn wsX0_reach (wsV RX0 80 RX0 yX0_settle wsX0_settle) := goodIn_app (goodIn_of _ (by decide +kernel)) ggX0_reach_X0_settle
theorem dX0_reach_0 : decode cX0_reach 0 = .ok (.lload_n 1, 1) := by decide +kernel
theorem dX0_reach_1 : decode cX0_reach 1 = .ok (.ldc2_w 74, 3) := by decide +kernel
theorem dX0_reach_4 : decode cX0_reach 4 = .ok (.lmul, 1) := by decide +kernel
theorem dX0_reach_5 : decode cX0_reach 5 = .ok (.lload_n 3, 1) := by decide +kernel
theorem dX0_reach_6 : decode cX0_reach 6 = .ok (.ldc2_w 76, 3) := by decide +kernel
theorem dX0_reach_9 : decode cX0_reach 9 = .ok (.lmul, 1) := by decide +kernel
theorem dX0_reach_10 : decode cX0_reach 10 = .ok (.ladd, 1) := by decide +kernel
theorem dX0_reach_11 : decode cX0_reach 11 = .ok (.lstore 5, 2) := by decide +kernel
theorem dX0_reach_13 : decode cX0_reach 13 = .ok (.lload 5, 2) := by decide +kernel
theorem dX0_reach_15 : decode cX0_reach 15 = .ok (.lload 5, 2) := by decide +kernel
theorem dX0_reach_17 : decode cX0_reach 17 = .ok (.bipush 29, 2) := by decide +kernel
theorem dX0_reach_19 : decode cX0_reach 19 = .ok (.lushr, 1) := by decide +kernel
theorem dX0_reach_20 : decode cX0_reach 20 = .ok (.lxor, 1) := by decide +kernel
theorem dX0_reach_21 : decode cX0_reach 21 = .ok (.ldc2_w 78, 3) := by decide +kernel
theorem dX0_reach_24 : decode cX0_reach 24 = .ok (.lmul, 1) := by decide +kernel
theorem dX0_reach_25 : decode cX0_reach 25 = .ok (.lstore 5, 2) := by decide +kernel
theorem dX0_reach_27 : decode cX0_reach 27 = .ok (.lload 5, 2) := by decide +kernel
theorem dX0_reach_29 : decode cX0_reach 29 = .ok (.bipush 52, 2) := by decide +kernel
theorem dX0_reach_31 : decode cX0_reach 31 = .ok (.lushr, 1) := by decide +kernel
theorem dX0_reach_32 : decode cX0_reach 32 = .ok (.l2i, 1) := by decide +kernel
theorem dX0_reach_33 : decode cX0_reach 33 = .ok (.istore 7, 2) := by decide +kernel
theorem dX0_reach_35 : decode cX0_reach 35 = .ok (.iconst 0, 1) := by decide +kernel
theorem dX0_reach_36 : decode cX0_reach 36 = .ok (.istore 8, 2) := by decide +kernel
theorem dX0_reach_38 : decode cX0_reach 38 = .ok (.iload 8, 2) := by decide +kernel
theorem dX0_reach_40 : decode cX0_reach 40 = .ok (.sipush 4096, 3) := by decide +kernel
theorem dX0_reach_43 : decode cX0_reach 43 = .ok (.if_icmp .ge 70, 3) := by decide +kernel
theorem dX0_reach_46 : decode cX0_reach 46 = .ok (.iload 7, 2) := by decide +kernel
theorem dX0_reach_48 : decode cX0_reach 48 = .ok (.iload 8, 2) := by decide +kernel
theorem dX0_reach_50 : decode cX0_reach 50 = .ok (.iadd, 1) := by decide +kernel
theorem dX0_reach_51 : decode cX0_reach 51 = .ok (.sipush 4095, 3) := by decide +kernel
theorem dX0_reach_54 : decode cX0_reach 54 = .ok (.iand, 1) := by decide +kernel
theorem dX0_reach_55 : decode cX0_reach 55 = .ok (.istore 9, 2) := by decide +kernel
theorem dX0_reach_57 : decode cX0_reach 57 = .ok (.aload_n 0, 1) := by decide +kernel
theorem dX0_reach_58 : decode cX0_reach 58 = .ok (.getfield 48, 3) := by decide +kernel
theorem dX0_reach_61 : decode cX0_reach 61 = .ok (.iload 9, 2) := by decide +kernel
theorem dX0_reach_63 : decode cX0_reach 63 = .ok (.iaload, 1) := by decide +kernel
theorem dX0_reach_64 : decode cX0_reach 64 = .ok (.istore 10, 2) := by decide +kernel
theorem dX0_reach_66 : decode cX0_reach 66 = .ok (.iload 10, 2) := by decide +kernel
theorem dX0_reach_68 : decode cX0_reach 68 = .ok (.ifCond .ge 12, 3) := by decide +kernel
theorem dX0_reach_71 : decode cX0_reach 71 = .ok (.aload_n 0, 1) := by decide +kernel
theorem dX0_reach_72 : decode cX0_reach 72 = .ok (.iload 9, 2) := by decide +kernel
theorem dX0_reach_74 : decode cX0_reach 74 = .ok (.lload_n 1, 1) := by decide +kernel
theorem dX0_reach_75 : decode cX0_reach 75 = .ok (.lload_n 3, 1) := by decide +kernel
theorem dX0_reach_76 : decode cX0_reach 76 = .ok (.invokevirtual 80, 3) := by decide +kernel
theorem dX0_reach_79 : decode cX0_reach 79 = .ok (.ireturn, 1) := by decide +kernel
theorem dX0_reach_80 : decode cX0_reach 80 = .ok (.aload_n 0, 1) := by decide +kernel
theorem dX0_reach_81 : decode cX0_reach 81 = .ok (.getfield 35, 3) := by decide +kernel
theorem dX0_reach_84 : decode cX0_reach 84 = .ok (.iload 10, 2) := by decide +kernel
theorem dX0_reach_86 : decode cX0_reach 86 = .ok (.laload, 1) := by decide +kernel
theorem dX0_reach_87 : decode cX0_reach 87 = .ok (.lload_n 1, 1) := by decide +kernel
theorem dX0_reach_88 : decode cX0_reach 88 = .ok (.lcmp, 1) := by decide +kernel
theorem dX0_reach_89 : decode cX0_reach 89 = .ok (.ifCond .ne 18, 3) := by decide +kernel
theorem dX0_reach_92 : decode cX0_reach 92 = .ok (.aload_n 0, 1) := by decide +kernel
theorem dX0_reach_93 : decode cX0_reach 93 = .ok (.getfield 39, 3) := by decide +kernel
theorem dX0_reach_96 : decode cX0_reach 96 = .ok (.iload 10, 2) := by decide +kernel
theorem dX0_reach_98 : decode cX0_reach 98 = .ok (.laload, 1) := by decide +kernel
theorem dX0_reach_99 : decode cX0_reach 99 = .ok (.lload_n 3, 1) := by decide +kernel
theorem dX0_reach_100 : decode cX0_reach 100 = .ok (.lcmp, 1) := by decide +kernel
theorem dX0_reach_101 : decode cX0_reach 101 = .ok (.ifCond .ne 6, 3) := by decide +kernel
theorem dX0_reach_104 : decode cX0_reach 104 = .ok (.iload 10, 2) := by decide +kernel
theorem dX0_reach_106 : decode cX0_reach 106 = .ok (.ireturn, 1) := by decide +kernel
theorem dX0_reach_107 : decode cX0_reach 107 = .ok (.iinc 8 1, 3) := by decide +kernel
theorem dX0_reach_110 : decode cX0_reach 110 = .ok (.goto (-72), 3) := by decide +kernel
theorem dX0_reach_113 : decode cX0_reach 113 = .ok (.iconst (-1), 1) := by decide +kernel
theorem dX0_reach_114 : decode cX0_reach 114 = .ok (.ireturn, 1) := by decide +kernel
theorem dX0_settle_0 : decode cX0_settle 0 = .ok (.aload_n 0, 1) := by decide +kernel
theorem dX0_settle_1 : decode cX0_settle 1 = .ok (.getfield 22, 3) := by decide +kernel
theorem dX0_settle_4 : decode cX0_settle 4 = .ok (.sipush 2000, 3) := by decide +kernel
theorem dX0_settle_7 : decode cX0_settle 7 = .ok (.if_icmp .lt 5, 3) := by decide +kernel
theorem dX0_settle_10 : decode cX0_settle 10 = .ok (.iconst (-1), 1) := by decide +kernel
theorem dX0_settle_11 : decode cX0_settle 11 = .ok (.ireturn, 1) := by decide +kernel
theorem dX0_settle_12 : decode cX0_settle 12 = .ok (.aload_n 0, 1) := by decide +kernel
theorem dX0_settle_13 : decode cX0_settle 13 = .ok (.getfield 48, 3) := by decide +kernel
theorem dX0_settle_16 : decode cX0_settle 16 = .ok (.iload_n 1, 1) := by decide +kernel
theorem dX0_settle_17 : decode cX0_settle 17 = .ok (.aload_n 0, 1) := by decide +kernel
theorem dX0_settle_18 : decode cX0_settle 18 = .ok (.getfield 22, 3) := by decide +kernel
theorem dX0_settle_21 : decode cX0_settle 21 = .ok (.iastore, 1) := by decide +kernel
theorem dX0_settle_22 : decode cX0_settle 22 = .ok (.aload_n 0, 1) := by decide +kernel
theorem dX0_settle_23 : decode cX0_settle 23 = .ok (.getfield 35, 3) := by decide +kernel
theorem dX0_settle_26 : decode cX0_settle 26 = .ok (.aload_n 0, 1) := by decide +kernel
theorem dX0_settle_27 : decode cX0_settle 27 = .ok (.getfield 22, 3) := by decide +kernel
theorem dX0_settle_30 : decode cX0_settle 30 = .ok (.lload_n 2, 1) := by decide +kernel
theorem dX0_settle_31 : decode cX0_settle 31 = .ok (.lastore, 1) := by decide +kernel
theorem dX0_settle_32 : decode cX0_settle 32 = .ok (.aload_n 0, 1) := by decide +kernel
theorem dX0_settle_33 : decode cX0_settle 33 = .ok (.getfield 39, 3) := by decide +kernel
theorem dX0_settle_36 : decode cX0_settle 36 = .ok (.aload_n 0, 1) := by decide +kernel
theorem dX0_settle_37 : decode cX0_settle 37 = .ok (.getfield 22, 3) := by decide +kernel
theorem dX0_settle_40 : decode cX0_settle 40 = .ok (.lload 4, 2) := by decide +kernel
theorem dX0_settle_42 : decode cX0_settle 42 = .ok (.lastore, 1) := by decide +kernel
theorem dX0_settle_43 : decode cX0_settle 43 = .ok (.aload_n 0, 1) := by decide +kernel
theorem dX0_settle_44 : decode cX0_settle 44 = .ok (.dup, 1) := by decide +kernel
theorem dX0_settle_45 : decode cX0_settle 45 = .ok (.getfield 22, 3) := by decide +kernel
theorem dX0_settle_48 : decode cX0_settle 48 = .ok (.iconst 1, 1) := by decide +kernel
theorem dX0_settle_49 : decode cX0_settle 49 = .ok (.iadd, 1) := by decide +kernel
theorem dX0_settle_50 : decode cX0_settle 50 = .ok (.putfield 22, 3) := by decide +kernel
theorem dX0_settle_53 : decode cX0_settle 53 = .ok (.aload_n 0, 1) := by decide +kernel
theorem dX0_settle_54 : decode cX0_settle 54 = .ok (.getfield 22, 3) := by decide +kernel
theorem dX0_settle_57 : decode cX0_settle 57 = .ok (.iconst 1, 1) := by decide +kernel
theorem dX0_settle_58 : decode cX0_settle 58 = .ok (.isub, 1) := by decide +kernel
theorem dX0_settle_59 : decode cX0_settle 59 = .ok (.ireturn, 1) := by decide +kernel
set_option maxRecDepth 20000 in
theorem ggX0_markValues_X1_valueAt : GoodIn wsX0_markValues wsX1_valueAt := goodIn_r _ [10, 11, 12, 13, 14, 15, 16, 17, 18, 19, 33, 34, 35, 36, 37, 38, 39] (by decide +kernel) (by decide +kernel)
set_option maxRecDepth 20000 in
theorem gX0_markValues_X1_valueAt : GoodIn wsX0_markValues (wsV RX0 84 RX1 yX1_valueAt wsX1_valueAt) := goodIn_app (goodIn_of _ (by decide +kernel)) ggX0_markValues_X1_valueAt
theorem dX0_markValues_0 : decode cX0_markValues 0 = .ok (.iconst 0, 1) := by decide +kernel
theorem dX0_markValues_1 : decode cX0_markValues 1 = .ok (.istore_n 1, 1) := by decide +kernel
theorem dX0_markValues_2 : decode cX0_markValues 2 = .ok (.iload_n 1, 1) := by decide +kernel
theorem dX0_markValues_3 : decode cX0_markValues 3 = .ok (.aload_n 0, 1) := by decide +kernel
theorem dX0_markValues_4 : decode cX0_markValues 4 = .ok (.getfield 22, 3) := by decide +kernel
theorem dX0_markValues_7 : decode cX0_markValues 7 = .ok (.if_icmp .ge 35, 3) := by decide +kernel
theorem dX0_markValues_10 : decode cX0_markValues 10 = .ok (.aload_n 0, 1) := by decide +kernel
theorem dX0_markValues_11 : decode cX0_markValues 11 = .ok (.getfield 29, 3) := by decide +kernel
theorem dX0_markValues_14 : decode cX0_markValues 14 = .ok (.iload_n 1, 1) := by decide +kernel
theorem dX0_markValues_15 : decode cX0_markValues 15 = .ok (.aload_n 0, 1) := by decide +kernel
theorem dX0_markValues_16 : decode cX0_markValues 16 = .ok (.getfield 12, 3) := by decide +kernel
theorem dX0_markValues_19 : decode cX0_markValues 19 = .ok (.iconst 0, 1) := by decide +kernel
theorem dX0_markValues_20 : decode cX0_markValues 20 = .ok (.aload_n 0, 1) := by decide +kernel
theorem dX0_markValues_21 : decode cX0_markValues 21 = .ok (.getfield 35, 3) := by decide +kernel
theorem dX0_markValues_24 : decode cX0_markValues 24 = .ok (.iload_n 1, 1) := by decide +kernel
theorem dX0_markValues_25 : decode cX0_markValues 25 = .ok (.laload, 1) := by decide +kernel
theorem dX0_markValues_26 : decode cX0_markValues 26 = .ok (.aload_n 0, 1) := by decide +kernel
theorem dX0_markValues_27 : decode cX0_markValues 27 = .ok (.getfield 39, 3) := by decide +kernel
theorem dX0_markValues_30 : decode cX0_markValues 30 = .ok (.iload_n 1, 1) := by decide +kernel
theorem dX0_markValues_31 : decode cX0_markValues 31 = .ok (.laload, 1) := by decide +kernel
theorem dX0_markValues_32 : decode cX0_markValues 32 = .ok (.invokevirtual 84, 3) := by decide +kernel
theorem dX0_markValues_35 : decode cX0_markValues 35 = .ok (.iastore, 1) := by decide +kernel
theorem dX0_markValues_36 : decode cX0_markValues 36 = .ok (.iinc 1 1, 3) := by decide +kernel
theorem dX0_markValues_39 : decode cX0_markValues 39 = .ok (.goto (-37), 3) := by decide +kernel
theorem dX0_markValues_42 : decode cX0_markValues 42 = .ok (.return_, 1) := by decide +kernel
set_option maxRecDepth 20000 in
theorem ggX0_markMembers_X2_holdsAt : GoodIn wsX0_markMembers wsX2_holdsAt := goodIn_r _ [10, 11, 12, 13, 14, 15, 16, 17, 18, 19, 20, 21, 22, 23, 24, 25, 26, 27, 28, 29, 9, 30, 31, 45, 46, 47, 48, 49, 50, 51, 52, 53, 54, 55, 56] (by decide +kernel) (by decide +kernel)
set_option maxRecDepth 20000 in
theorem gX0_markMembers_X2_holdsAt : GoodIn wsX0_markMembers (wsV RX0 87 RX2 yX2_holdsAt wsX2_holdsAt) := goodIn_app (goodIn_of _ (by decide +kernel)) ggX0_markMembers_X2_holdsAt
theorem dX0_markMembers_0 : decode cX0_markMembers 0 = .ok (.iconst 0, 1) := by decide +kernel
theorem dX0_markMembers_1 : decode cX0_markMembers 1 = .ok (.istore_n 2, 1) := by decide +kernel
theorem dX0_markMembers_2 : decode cX0_markMembers 2 = .ok (.iload_n 2, 1) := by decide +kernel
theorem dX0_markMembers_3 : decode cX0_markMembers 3 = .ok (.aload_n 0, 1) := by decide +kernel
theorem dX0_markMembers_4 : decode cX0_markMembers 4 = .ok (.getfield 22, 3) := by decide +kernel
theorem dX0_markMembers_7 : decode cX0_markMembers 7 = .ok (.if_icmp .ge 44, 3) := by decide +kernel
theorem dX0_markMembers_10 : decode cX0_markMembers 10 = .ok (.aload_n 0, 1) := by decide +kernel
theorem dX0_markMembers_11 : decode cX0_markMembers 11 = .ok (.getfield 29, 3) := by decide +kernel
theorem dX0_markMembers_14 : decode cX0_markMembers 14 = .ok (.iload_n 2, 1) := by decide +kernel
theorem dX0_markMembers_15 : decode cX0_markMembers 15 = .ok (.aload_n 1, 1) := by decide +kernel
theorem dX0_markMembers_16 : decode cX0_markMembers 16 = .ok (.aload_n 0, 1) := by decide +kernel
theorem dX0_markMembers_17 : decode cX0_markMembers 17 = .ok (.getfield 12, 3) := by decide +kernel
theorem dX0_markMembers_20 : decode cX0_markMembers 20 = .ok (.iconst 0, 1) := by decide +kernel
theorem dX0_markMembers_21 : decode cX0_markMembers 21 = .ok (.aload_n 0, 1) := by decide +kernel
theorem dX0_markMembers_22 : decode cX0_markMembers 22 = .ok (.getfield 35, 3) := by decide +kernel
theorem dX0_markMembers_25 : decode cX0_markMembers 25 = .ok (.iload_n 2, 1) := by decide +kernel
theorem dX0_markMembers_26 : decode cX0_markMembers 26 = .ok (.laload, 1) := by decide +kernel
theorem dX0_markMembers_27 : decode cX0_markMembers 27 = .ok (.aload_n 0, 1) := by decide +kernel
theorem dX0_markMembers_28 : decode cX0_markMembers 28 = .ok (.getfield 39, 3) := by decide +kernel
theorem dX0_markMembers_31 : decode cX0_markMembers 31 = .ok (.iload_n 2, 1) := by decide +kernel
theorem dX0_markMembers_32 : decode cX0_markMembers 32 = .ok (.laload, 1) := by decide +kernel
theorem dX0_markMembers_33 : decode cX0_markMembers 33 = .ok (.invokevirtual 87, 3) := by decide +kernel
theorem dX0_markMembers_36 : decode cX0_markMembers 36 = .ok (.ifCond .eq 7, 3) := by decide +kernel
theorem dX0_markMembers_39 : decode cX0_markMembers 39 = .ok (.iconst 1, 1) := by decide +kernel
theorem dX0_markMembers_40 : decode cX0_markMembers 40 = .ok (.goto 4, 3) := by decide +kernel
theorem dX0_markMembers_43 : decode cX0_markMembers 43 = .ok (.iconst 0, 1) := by decide +kernel
theorem dX0_markMembers_44 : decode cX0_markMembers 44 = .ok (.iastore, 1) := by decide +kernel
theorem dX0_markMembers_45 : decode cX0_markMembers 45 = .ok (.iinc 2 1, 3) := by decide +kernel
theorem dX0_markMembers_48 : decode cX0_markMembers 48 = .ok (.goto (-46), 3) := by decide +kernel
theorem dX0_markMembers_51 : decode cX0_markMembers 51 = .ok (.return_, 1) := by decide +kernel
set_option maxRecDepth 20000 in
theorem ggX0_markDifference_X2_holdsAt : GoodIn wsX0_markDifference wsX2_holdsAt := goodIn_r _ [11, 12, 13, 14, 15, 16, 17, 18, 19, 20, 21, 22, 23, 24, 25, 26, 27, 28, 29, 30, 10, 31, 32, 46, 47, 48, 49, 50, 51, 52, 53, 54, 55, 56, 57] (by decide +kernel) (by decide +kernel)
set_option maxRecDepth 20000 in
theorem gX0_markDifference_X2_holdsAt : GoodIn wsX0_markDifference (wsV RX0 87 RX2 yX2_holdsAt wsX2_holdsAt) := goodIn_app (goodIn_of _ (by decide +kernel)) ggX0_markDifference_X2_holdsAt
theorem dX0_markDifference_0 : decode cX0_markDifference 0 = .ok (.iconst 0, 1) := by decide +kernel
theorem dX0_markDifference_1 : decode cX0_markDifference 1 = .ok (.istore_n 3, 1) := by decide +kernel
theorem dX0_markDifference_2 : decode cX0_markDifference 2 = .ok (.iload_n 3, 1) := by decide +kernel
theorem dX0_markDifference_3 : decode cX0_markDifference 3 = .ok (.aload_n 0, 1) := by decide +kernel
theorem dX0_markDifference_4 : decode cX0_markDifference 4 = .ok (.getfield 22, 3) := by decide +kernel
theorem dX0_markDifference_7 : decode cX0_markDifference 7 = .ok (.if_icmp .ge 76, 3) := by decide +kernel
theorem dX0_markDifference_10 : decode cX0_markDifference 10 = .ok (.aload_n 1, 1) := by decide +kernel
theorem dX0_markDifference_11 : decode cX0_markDifference 11 = .ok (.aload_n 0, 1) := by decide +kernel
theorem dX0_markDifference_12 : decode cX0_markDifference 12 = .ok (.getfield 12, 3) := by decide +kernel
theorem dX0_markDifference_15 : decode cX0_markDifference 15 = .ok (.iconst 0, 1) := by decide +kernel
theorem dX0_markDifference_16 : decode cX0_markDifference 16 = .ok (.aload_n 0, 1) := by decide +kernel
theorem dX0_markDifference_17 : decode cX0_markDifference 17 = .ok (.getfield 35, 3) := by decide +kernel
theorem dX0_markDifference_20 : decode cX0_markDifference 20 = .ok (.iload_n 3, 1) := by decide +kernel
theorem dX0_markDifference_21 : decode cX0_markDifference 21 = .ok (.laload, 1) := by decide +kernel
theorem dX0_markDifference_22 : decode cX0_markDifference 22 = .ok (.aload_n 0, 1) := by decide +kernel
theorem dX0_markDifference_23 : decode cX0_markDifference 23 = .ok (.getfield 39, 3) := by decide +kernel
theorem dX0_markDifference_26 : decode cX0_markDifference 26 = .ok (.iload_n 3, 1) := by decide +kernel
theorem dX0_markDifference_27 : decode cX0_markDifference 27 = .ok (.laload, 1) := by decide +kernel
theorem dX0_markDifference_28 : decode cX0_markDifference 28 = .ok (.invokevirtual 87, 3) := by decide +kernel
theorem dX0_markDifference_31 : decode cX0_markDifference 31 = .ok (.istore 4, 2) := by decide +kernel
theorem dX0_markDifference_33 : decode cX0_markDifference 33 = .ok (.aload_n 2, 1) := by decide +kernel
theorem dX0_markDifference_34 : decode cX0_markDifference 34 = .ok (.aload_n 0, 1) := by decide +kernel
theorem dX0_markDifference_35 : decode cX0_markDifference 35 = .ok (.getfield 12, 3) := by decide +kernel
theorem dX0_markDifference_38 : decode cX0_markDifference 38 = .ok (.aload_n 1, 1) := by decide +kernel
theorem dX0_markDifference_39 : decode cX0_markDifference 39 = .ok (.getfield 93, 3) := by decide +kernel
theorem dX0_markDifference_42 : decode cX0_markDifference 42 = .ok (.aload_n 0, 1) := by decide +kernel
theorem dX0_markDifference_43 : decode cX0_markDifference 43 = .ok (.getfield 35, 3) := by decide +kernel
theorem dX0_markDifference_46 : decode cX0_markDifference 46 = .ok (.iload_n 3, 1) := by decide +kernel
theorem dX0_markDifference_47 : decode cX0_markDifference 47 = .ok (.laload, 1) := by decide +kernel
theorem dX0_markDifference_48 : decode cX0_markDifference 48 = .ok (.aload_n 0, 1) := by decide +kernel
theorem dX0_markDifference_49 : decode cX0_markDifference 49 = .ok (.getfield 39, 3) := by decide +kernel
theorem dX0_markDifference_52 : decode cX0_markDifference 52 = .ok (.iload_n 3, 1) := by decide +kernel
theorem dX0_markDifference_53 : decode cX0_markDifference 53 = .ok (.laload, 1) := by decide +kernel
theorem dX0_markDifference_54 : decode cX0_markDifference 54 = .ok (.invokevirtual 87, 3) := by decide +kernel
theorem dX0_markDifference_57 : decode cX0_markDifference 57 = .ok (.istore 5, 2) := by decide +kernel
theorem dX0_markDifference_59 : decode cX0_markDifference 59 = .ok (.aload_n 0, 1) := by decide +kernel
theorem dX0_markDifference_60 : decode cX0_markDifference 60 = .ok (.getfield 29, 3) := by decide +kernel
theorem dX0_markDifference_63 : decode cX0_markDifference 63 = .ok (.iload_n 3, 1) := by decide +kernel
theorem dX0_markDifference_64 : decode cX0_markDifference 64 = .ok (.iload 4, 2) := by decide +kernel
theorem dX0_markDifference_66 : decode cX0_markDifference 66 = .ok (.iload 5, 2) := by decide +kernel
theorem dX0_markDifference_68 : decode cX0_markDifference 68 = .ok (.if_icmp .eq 7, 3) := by decide +kernel
theorem dX0_markDifference_71 : decode cX0_markDifference 71 = .ok (.iconst 1, 1) := by decide +kernel
theorem dX0_markDifference_72 : decode cX0_markDifference 72 = .ok (.goto 4, 3) := by decide +kernel
theorem dX0_markDifference_75 : decode cX0_markDifference 75 = .ok (.iconst 0, 1) := by decide +kernel
theorem dX0_markDifference_76 : decode cX0_markDifference 76 = .ok (.iastore, 1) := by decide +kernel
theorem dX0_markDifference_77 : decode cX0_markDifference 77 = .ok (.iinc 3 1, 3) := by decide +kernel
theorem dX0_markDifference_80 : decode cX0_markDifference 80 = .ok (.goto (-78), 3) := by decide +kernel
theorem dX0_markDifference_83 : decode cX0_markDifference 83 = .ok (.return_, 1) := by decide +kernel
theorem dX0_firstMarked_0 : decode cX0_firstMarked 0 = .ok (.iconst 0, 1) := by decide +kernel
theorem dX0_firstMarked_1 : decode cX0_firstMarked 1 = .ok (.istore_n 1, 1) := by decide +kernel
theorem dX0_firstMarked_2 : decode cX0_firstMarked 2 = .ok (.iload_n 1, 1) := by decide +kernel
theorem dX0_firstMarked_3 : decode cX0_firstMarked 3 = .ok (.aload_n 0, 1) := by decide +kernel
theorem dX0_firstMarked_4 : decode cX0_firstMarked 4 = .ok (.getfield 22, 3) := by decide +kernel
theorem dX0_firstMarked_7 : decode cX0_firstMarked 7 = .ok (.if_icmp .ge 21, 3) := by decide +kernel
theorem dX0_firstMarked_10 : decode cX0_firstMarked 10 = .ok (.aload_n 0, 1) := by decide +kernel
theorem dX0_firstMarked_11 : decode cX0_firstMarked 11 = .ok (.getfield 29, 3) := by decide +kernel
theorem dX0_firstMarked_14 : decode cX0_firstMarked 14 = .ok (.iload_n 1, 1) := by decide +kernel
theorem dX0_firstMarked_15 : decode cX0_firstMarked 15 = .ok (.iaload, 1) := by decide +kernel
theorem dX0_firstMarked_16 : decode cX0_firstMarked 16 = .ok (.iconst 1, 1) := by decide +kernel
theorem dX0_firstMarked_17 : decode cX0_firstMarked 17 = .ok (.if_icmp .ne 5, 3) := by decide +kernel
theorem dX0_firstMarked_20 : decode cX0_firstMarked 20 = .ok (.iload_n 1, 1) := by decide +kernel
theorem dX0_firstMarked_21 : decode cX0_firstMarked 21 = .ok (.ireturn, 1) := by decide +kernel
theorem dX0_firstMarked_22 : decode cX0_firstMarked 22 = .ok (.iinc 1 1, 3) := by decide +kernel
theorem dX0_firstMarked_25 : decode cX0_firstMarked 25 = .ok (.goto (-23), 3) := by decide +kernel
theorem dX0_firstMarked_28 : decode cX0_firstMarked 28 = .ok (.iconst (-1), 1) := by decide +kernel
theorem dX0_firstMarked_29 : decode cX0_firstMarked 29 = .ok (.ireturn, 1) := by decide +kernel
theorem dX0_spell_0 : decode cX0_spell 0 = .ok (.iload_n 1, 1) := by decide +kernel
theorem dX0_spell_1 : decode cX0_spell 1 = .ok (.istore_n 3, 1) := by decide +kernel
theorem dX0_spell_2 : decode cX0_spell 2 = .ok (.aload_n 2, 1) := by decide +kernel
theorem dX0_spell_3 : decode cX0_spell 3 = .ok (.aload_n 0, 1) := by decide +kernel
theorem dX0_spell_4 : decode cX0_spell 4 = .ok (.getfield 32, 3) := by decide +kernel
theorem dX0_spell_7 : decode cX0_spell 7 = .ok (.iload_n 1, 1) := by decide +kernel
theorem dX0_spell_8 : decode cX0_spell 8 = .ok (.iaload, 1) := by decide +kernel
theorem dX0_spell_9 : decode cX0_spell 9 = .ok (.bipush 12, 2) := by decide +kernel
theorem dX0_spell_11 : decode cX0_spell 11 = .ok (.invokestatic 96, 3) := by decide +kernel
theorem dX0_spell_14 : decode cX0_spell 14 = .ok (.putfield 102, 3) := by decide +kernel
theorem dX0_spell_17 : decode cX0_spell 17 = .ok (.aload_n 2, 1) := by decide +kernel
theorem dX0_spell_18 : decode cX0_spell 18 = .ok (.getfield 102, 3) := by decide +kernel
theorem dX0_spell_21 : decode cX0_spell 21 = .ok (.iconst 1, 1) := by decide +kernel
theorem dX0_spell_22 : decode cX0_spell 22 = .ok (.isub, 1) := by decide +kernel
theorem dX0_spell_23 : decode cX0_spell 23 = .ok (.istore 4, 2) := by decide +kernel
theorem dX0_spell_25 : decode cX0_spell 25 = .ok (.iload 4, 2) := by decide +kernel
theorem dX0_spell_27 : decode cX0_spell 27 = .ok (.ifCond .lt 29, 3) := by decide +kernel
theorem dX0_spell_30 : decode cX0_spell 30 = .ok (.aload_n 2, 1) := by decide +kernel
theorem dX0_spell_31 : decode cX0_spell 31 = .ok (.getfield 107, 3) := by decide +kernel
theorem dX0_spell_34 : decode cX0_spell 34 = .ok (.iload 4, 2) := by decide +kernel
theorem dX0_spell_36 : decode cX0_spell 36 = .ok (.aload_n 0, 1) := by decide +kernel
theorem dX0_spell_37 : decode cX0_spell 37 = .ok (.getfield 45, 3) := by decide +kernel
theorem dX0_spell_40 : decode cX0_spell 40 = .ok (.iload_n 3, 1) := by decide +kernel
theorem dX0_spell_41 : decode cX0_spell 41 = .ok (.iaload, 1) := by decide +kernel
theorem dX0_spell_42 : decode cX0_spell 42 = .ok (.iastore, 1) := by decide +kernel
theorem dX0_spell_43 : decode cX0_spell 43 = .ok (.aload_n 0, 1) := by decide +kernel
theorem dX0_spell_44 : decode cX0_spell 44 = .ok (.getfield 42, 3) := by decide +kernel
theorem dX0_spell_47 : decode cX0_spell 47 = .ok (.iload_n 3, 1) := by decide +kernel
theorem dX0_spell_48 : decode cX0_spell 48 = .ok (.iaload, 1) := by decide +kernel
theorem dX0_spell_49 : decode cX0_spell 49 = .ok (.istore_n 3, 1) := by decide +kernel
theorem dX0_spell_50 : decode cX0_spell 50 = .ok (.iinc 4 (-1), 3) := by decide +kernel
theorem dX0_spell_53 : decode cX0_spell 53 = .ok (.goto (-28), 3) := by decide +kernel
theorem dX0_spell_56 : decode cX0_spell 56 = .ok (.return_, 1) := by decide +kernel
set_option maxRecDepth 20000 in
theorem ggX0_countByLength_X0_clearPaths : GoodIn wsX0_countByLength wsX0_clearPaths := goodIn_r _ [6, 7, 24, 25, 26, 27, 28, 29, 30, 31, 32, 33, 34, 35, 36] (by decide +kernel) (by decide +kernel)
set_option maxRecDepth 20000 in
theorem gX0_countByLength_X0_clearPaths : GoodIn wsX0_countByLength (wsV RX0 109 RX0 yX0_clearPaths wsX0_clearPaths) := goodIn_app (goodIn_of _ (by decide +kernel)) ggX0_countByLength_X0_clearPaths
set_option maxRecDepth 20000 in
theorem ggX0_countByLength_X0_markedPaths : GoodIn wsX0_countByLength wsX0_markedPaths := goodIn_r _ [11, 7, 12, 1, 24, 25, 26, 27, 28, 29, 30, 31, 32, 33, 34, 35, 36] (by decide +kernel) (by decide +kernel)
set_option maxRecDepth 20000 in
theorem gX0_countByLength_X0_markedPaths : GoodIn wsX0_countByLength (wsV RX0 113 RX0 yX0_markedPaths wsX0_markedPaths) := goodIn_app (goodIn_of _ (by decide +kernel)) ggX0_countByLength_X0_markedPaths
set_option maxRecDepth 20000 in
theorem ggX0_countByLength_X0_lengthenPaths : GoodIn wsX0_countByLength wsX0_lengthenPaths := goodIn_r _ [16, 17, 7, 18, 19, 1, 20, 21, 22, 23, 2, 3, 4, 5, 6, 24, 25, 26, 27, 28, 29, 30, 31, 32, 33, 34, 35, 36] (by decide +kernel) (by decide +kernel)
set_option maxRecDepth 20000 in
theorem gX0_countByLength_X0_lengthenPaths : GoodIn wsX0_countByLength (wsV RX0 117 RX0 yX0_lengthenPaths wsX0_lengthenPaths) := goodIn_app (goodIn_of _ (by decide +kernel)) ggX0_countByLength_X0_lengthenPaths
theorem dX0_countByLength_0 : decode cX0_countByLength 0 = .ok (.aload_n 0, 1) := by decide +kernel
theorem dX0_countByLength_1 : decode cX0_countByLength 1 = .ok (.aload_n 0, 1) := by decide +kernel
theorem dX0_countByLength_2 : decode cX0_countByLength 2 = .ok (.getfield 51, 3) := by decide +kernel
theorem dX0_countByLength_5 : decode cX0_countByLength 5 = .ok (.invokevirtual 109, 3) := by decide +kernel
theorem dX0_countByLength_8 : decode cX0_countByLength 8 = .ok (.aload_n 0, 1) := by decide +kernel
theorem dX0_countByLength_9 : decode cX0_countByLength 9 = .ok (.getfield 51, 3) := by decide +kernel
theorem dX0_countByLength_12 : decode cX0_countByLength 12 = .ok (.iconst 0, 1) := by decide +kernel
theorem dX0_countByLength_13 : decode cX0_countByLength 13 = .ok (.lconst 1, 1) := by decide +kernel
theorem dX0_countByLength_14 : decode cX0_countByLength 14 = .ok (.lastore, 1) := by decide +kernel
theorem dX0_countByLength_15 : decode cX0_countByLength 15 = .ok (.iconst 0, 1) := by decide +kernel
theorem dX0_countByLength_16 : decode cX0_countByLength 16 = .ok (.istore_n 3, 1) := by decide +kernel
theorem dX0_countByLength_17 : decode cX0_countByLength 17 = .ok (.iload_n 3, 1) := by decide +kernel
theorem dX0_countByLength_18 : decode cX0_countByLength 18 = .ok (.iload_n 2, 1) := by decide +kernel
theorem dX0_countByLength_19 : decode cX0_countByLength 19 = .ok (.if_icmp .gt 26, 3) := by decide +kernel
theorem dX0_countByLength_22 : decode cX0_countByLength 22 = .ok (.iload_n 3, 1) := by decide +kernel
theorem dX0_countByLength_23 : decode cX0_countByLength 23 = .ok (.aload_n 1, 1) := by decide +kernel
theorem dX0_countByLength_24 : decode cX0_countByLength 24 = .ok (.arraylength, 1) := by decide +kernel
theorem dX0_countByLength_25 : decode cX0_countByLength 25 = .ok (.if_icmp .ge 20, 3) := by decide +kernel
theorem dX0_countByLength_28 : decode cX0_countByLength 28 = .ok (.aload_n 1, 1) := by decide +kernel
theorem dX0_countByLength_29 : decode cX0_countByLength 29 = .ok (.iload_n 3, 1) := by decide +kernel
theorem dX0_countByLength_30 : decode cX0_countByLength 30 = .ok (.aload_n 0, 1) := by decide +kernel
theorem dX0_countByLength_31 : decode cX0_countByLength 31 = .ok (.invokevirtual 113, 3) := by decide +kernel
theorem dX0_countByLength_34 : decode cX0_countByLength 34 = .ok (.lastore, 1) := by decide +kernel
theorem dX0_countByLength_35 : decode cX0_countByLength 35 = .ok (.aload_n 0, 1) := by decide +kernel
theorem dX0_countByLength_36 : decode cX0_countByLength 36 = .ok (.invokevirtual 117, 3) := by decide +kernel
theorem dX0_countByLength_39 : decode cX0_countByLength 39 = .ok (.iinc 3 1, 3) := by decide +kernel
theorem dX0_countByLength_42 : decode cX0_countByLength 42 = .ok (.goto (-25), 3) := by decide +kernel
theorem dX0_countByLength_45 : decode cX0_countByLength 45 = .ok (.return_, 1) := by decide +kernel
theorem dX0_markedPaths_0 : decode cX0_markedPaths 0 = .ok (.lconst 0, 1) := by decide +kernel
theorem dX0_markedPaths_1 : decode cX0_markedPaths 1 = .ok (.lstore_n 1, 1) := by decide +kernel
theorem dX0_markedPaths_2 : decode cX0_markedPaths 2 = .ok (.iconst 0, 1) := by decide +kernel
theorem dX0_markedPaths_3 : decode cX0_markedPaths 3 = .ok (.istore_n 3, 1) := by decide +kernel
theorem dX0_markedPaths_4 : decode cX0_markedPaths 4 = .ok (.iload_n 3, 1) := by decide +kernel
theorem dX0_markedPaths_5 : decode cX0_markedPaths 5 = .ok (.aload_n 0, 1) := by decide +kernel
theorem dX0_markedPaths_6 : decode cX0_markedPaths 6 = .ok (.getfield 22, 3) := by decide +kernel
theorem dX0_markedPaths_9 : decode cX0_markedPaths 9 = .ok (.if_icmp .ge 28, 3) := by decide +kernel
theorem dX0_markedPaths_12 : decode cX0_markedPaths 12 = .ok (.aload_n 0, 1) := by decide +kernel
theorem dX0_markedPaths_13 : decode cX0_markedPaths 13 = .ok (.getfield 29, 3) := by decide +kernel
theorem dX0_markedPaths_16 : decode cX0_markedPaths 16 = .ok (.iload_n 3, 1) := by decide +kernel
theorem dX0_markedPaths_17 : decode cX0_markedPaths 17 = .ok (.iaload, 1) := by decide +kernel
theorem dX0_markedPaths_18 : decode cX0_markedPaths 18 = .ok (.iconst 1, 1) := by decide +kernel
theorem dX0_markedPaths_19 : decode cX0_markedPaths 19 = .ok (.if_icmp .ne 12, 3) := by decide +kernel
theorem dX0_markedPaths_22 : decode cX0_markedPaths 22 = .ok (.lload_n 1, 1) := by decide +kernel
theorem dX0_markedPaths_23 : decode cX0_markedPaths 23 = .ok (.aload_n 0, 1) := by decide +kernel
theorem dX0_markedPaths_24 : decode cX0_markedPaths 24 = .ok (.getfield 51, 3) := by decide +kernel
theorem dX0_markedPaths_27 : decode cX0_markedPaths 27 = .ok (.iload_n 3, 1) := by decide +kernel
theorem dX0_markedPaths_28 : decode cX0_markedPaths 28 = .ok (.laload, 1) := by decide +kernel
theorem dX0_markedPaths_29 : decode cX0_markedPaths 29 = .ok (.ladd, 1) := by decide +kernel
theorem dX0_markedPaths_30 : decode cX0_markedPaths 30 = .ok (.lstore_n 1, 1) := by decide +kernel
theorem dX0_markedPaths_31 : decode cX0_markedPaths 31 = .ok (.iinc 3 1, 3) := by decide +kernel
theorem dX0_markedPaths_34 : decode cX0_markedPaths 34 = .ok (.goto (-30), 3) := by decide +kernel
theorem dX0_markedPaths_37 : decode cX0_markedPaths 37 = .ok (.lload_n 1, 1) := by decide +kernel
theorem dX0_markedPaths_38 : decode cX0_markedPaths 38 = .ok (.lreturn, 1) := by decide +kernel
set_option maxRecDepth 20000 in
theorem ggX0_lengthenPaths_X0_clearPaths : GoodIn wsX0_lengthenPaths wsX0_clearPaths := goodIn_r _ [14, 2, 15, 16, 17, 18, 19, 20, 21, 22, 23, 24, 25, 26, 27] (by decide +kernel) (by decide +kernel)
set_option maxRecDepth 20000 in
theorem gX0_lengthenPaths_X0_clearPaths : GoodIn wsX0_lengthenPaths (wsV RX0 109 RX0 yX0_clearPaths wsX0_clearPaths) := goodIn_app (goodIn_of _ (by decide +kernel)) ggX0_lengthenPaths_X0_clearPaths
theorem dX0_lengthenPaths_0 : decode cX0_lengthenPaths 0 = .ok (.aload_n 0, 1) := by decide +kernel
theorem dX0_lengthenPaths_1 : decode cX0_lengthenPaths 1 = .ok (.aload_n 0, 1) := by decide +kernel
theorem dX0_lengthenPaths_2 : decode cX0_lengthenPaths 2 = .ok (.getfield 54, 3) := by decide +kernel
theorem dX0_lengthenPaths_5 : decode cX0_lengthenPaths 5 = .ok (.invokevirtual 109, 3) := by decide +kernel
theorem dX0_lengthenPaths_8 : decode cX0_lengthenPaths 8 = .ok (.iconst 0, 1) := by decide +kernel
theorem dX0_lengthenPaths_9 : decode cX0_lengthenPaths 9 = .ok (.istore_n 1, 1) := by decide +kernel
theorem dX0_lengthenPaths_10 : decode cX0_lengthenPaths 10 = .ok (.iload_n 1, 1) := by decide +kernel
theorem dX0_lengthenPaths_11 : decode cX0_lengthenPaths 11 = .ok (.aload_n 0, 1) := by decide +kernel
theorem dX0_lengthenPaths_12 : decode cX0_lengthenPaths 12 = .ok (.getfield 22, 3) := by decide +kernel
theorem dX0_lengthenPaths_15 : decode cX0_lengthenPaths 15 = .ok (.if_icmp .ge 49, 3) := by decide +kernel
theorem dX0_lengthenPaths_18 : decode cX0_lengthenPaths 18 = .ok (.iconst 0, 1) := by decide +kernel
theorem dX0_lengthenPaths_19 : decode cX0_lengthenPaths 19 = .ok (.istore_n 2, 1) := by decide +kernel
theorem dX0_lengthenPaths_20 : decode cX0_lengthenPaths 20 = .ok (.iload_n 2, 1) := by decide +kernel
theorem dX0_lengthenPaths_21 : decode cX0_lengthenPaths 21 = .ok (.aload_n 0, 1) := by decide +kernel
theorem dX0_lengthenPaths_22 : decode cX0_lengthenPaths 22 = .ok (.getfield 18, 3) := by decide +kernel
theorem dX0_lengthenPaths_25 : decode cX0_lengthenPaths 25 = .ok (.if_icmp .ge 33, 3) := by decide +kernel
theorem dX0_lengthenPaths_28 : decode cX0_lengthenPaths 28 = .ok (.aload_n 0, 1) := by decide +kernel
theorem dX0_lengthenPaths_29 : decode cX0_lengthenPaths 29 = .ok (.getfield 54, 3) := by decide +kernel
theorem dX0_lengthenPaths_32 : decode cX0_lengthenPaths 32 = .ok (.aload_n 0, 1) := by decide +kernel
theorem dX0_lengthenPaths_33 : decode cX0_lengthenPaths 33 = .ok (.getfield 25, 3) := by decide +kernel
theorem dX0_lengthenPaths_36 : decode cX0_lengthenPaths 36 = .ok (.iload_n 1, 1) := by decide +kernel
theorem dX0_lengthenPaths_37 : decode cX0_lengthenPaths 37 = .ok (.iconst 3, 1) := by decide +kernel
theorem dX0_lengthenPaths_38 : decode cX0_lengthenPaths 38 = .ok (.imul, 1) := by decide +kernel
theorem dX0_lengthenPaths_39 : decode cX0_lengthenPaths 39 = .ok (.iload_n 2, 1) := by decide +kernel
theorem dX0_lengthenPaths_40 : decode cX0_lengthenPaths 40 = .ok (.iadd, 1) := by decide +kernel
theorem dX0_lengthenPaths_41 : decode cX0_lengthenPaths 41 = .ok (.iaload, 1) := by decide +kernel
theorem dX0_lengthenPaths_42 : decode cX0_lengthenPaths 42 = .ok (.dup2, 1) := by decide +kernel
theorem dX0_lengthenPaths_43 : decode cX0_lengthenPaths 43 = .ok (.laload, 1) := by decide +kernel
theorem dX0_lengthenPaths_44 : decode cX0_lengthenPaths 44 = .ok (.aload_n 0, 1) := by decide +kernel
theorem dX0_lengthenPaths_45 : decode cX0_lengthenPaths 45 = .ok (.getfield 51, 3) := by decide +kernel
theorem dX0_lengthenPaths_48 : decode cX0_lengthenPaths 48 = .ok (.iload_n 1, 1) := by decide +kernel
theorem dX0_lengthenPaths_49 : decode cX0_lengthenPaths 49 = .ok (.laload, 1) := by decide +kernel
theorem dX0_lengthenPaths_50 : decode cX0_lengthenPaths 50 = .ok (.ladd, 1) := by decide +kernel
theorem dX0_lengthenPaths_51 : decode cX0_lengthenPaths 51 = .ok (.lastore, 1) := by decide +kernel
theorem dX0_lengthenPaths_52 : decode cX0_lengthenPaths 52 = .ok (.iinc 2 1, 3) := by decide +kernel
theorem dX0_lengthenPaths_55 : decode cX0_lengthenPaths 55 = .ok (.goto (-35), 3) := by decide +kernel
theorem dX0_lengthenPaths_58 : decode cX0_lengthenPaths 58 = .ok (.iinc 1 1, 3) := by decide +kernel
theorem dX0_lengthenPaths_61 : decode cX0_lengthenPaths 61 = .ok (.goto (-51), 3) := by decide +kernel
theorem dX0_lengthenPaths_64 : decode cX0_lengthenPaths 64 = .ok (.aload_n 0, 1) := by decide +kernel
theorem dX0_lengthenPaths_65 : decode cX0_lengthenPaths 65 = .ok (.getfield 54, 3) := by decide +kernel
theorem dX0_lengthenPaths_68 : decode cX0_lengthenPaths 68 = .ok (.iconst 0, 1) := by decide +kernel
theorem dX0_lengthenPaths_69 : decode cX0_lengthenPaths 69 = .ok (.aload_n 0, 1) := by decide +kernel
theorem dX0_lengthenPaths_70 : decode cX0_lengthenPaths 70 = .ok (.getfield 51, 3) := by decide +kernel
theorem dX0_lengthenPaths_73 : decode cX0_lengthenPaths 73 = .ok (.iconst 0, 1) := by decide +kernel
theorem dX0_lengthenPaths_74 : decode cX0_lengthenPaths 74 = .ok (.aload_n 0, 1) := by decide +kernel
theorem dX0_lengthenPaths_75 : decode cX0_lengthenPaths 75 = .ok (.getfield 22, 3) := by decide +kernel
theorem dX0_lengthenPaths_78 : decode cX0_lengthenPaths 78 = .ok (.invokestatic 120, 3) := by decide +kernel
theorem dX0_lengthenPaths_81 : decode cX0_lengthenPaths 81 = .ok (.return_, 1) := by decide +kernel
theorem dX0_clearPaths_0 : decode cX0_clearPaths 0 = .ok (.iconst 0, 1) := by decide +kernel
theorem dX0_clearPaths_1 : decode cX0_clearPaths 1 = .ok (.istore_n 2, 1) := by decide +kernel
theorem dX0_clearPaths_2 : decode cX0_clearPaths 2 = .ok (.iload_n 2, 1) := by decide +kernel
theorem dX0_clearPaths_3 : decode cX0_clearPaths 3 = .ok (.aload_n 0, 1) := by decide +kernel
theorem dX0_clearPaths_4 : decode cX0_clearPaths 4 = .ok (.getfield 22, 3) := by decide +kernel
theorem dX0_clearPaths_7 : decode cX0_clearPaths 7 = .ok (.if_icmp .ge 13, 3) := by decide +kernel
theorem dX0_clearPaths_10 : decode cX0_clearPaths 10 = .ok (.aload_n 1, 1) := by decide +kernel
theorem dX0_clearPaths_11 : decode cX0_clearPaths 11 = .ok (.iload_n 2, 1) := by decide +kernel
theorem dX0_clearPaths_12 : decode cX0_clearPaths 12 = .ok (.lconst 0, 1) := by decide +kernel
theorem dX0_clearPaths_13 : decode cX0_clearPaths 13 = .ok (.lastore, 1) := by decide +kernel
theorem dX0_clearPaths_14 : decode cX0_clearPaths 14 = .ok (.iinc 2 1, 3) := by decide +kernel
theorem dX0_clearPaths_17 : decode cX0_clearPaths 17 = .ok (.goto (-15), 3) := by decide +kernel
theorem dX0_clearPaths_20 : decode cX0_clearPaths 20 = .ok (.return_, 1) := by decide +kernel
theorem dX1_init_0 : decode cX1_init 0 = .ok (.aload_n 0, 1) := by decide +kernel
theorem dX1_init_1 : decode cX1_init 1 = .ok (.invokespecial 3, 3) := by decide +kernel
theorem dX1_init_4 : decode cX1_init 4 = .ok (.aload_n 0, 1) := by decide +kernel
theorem dX1_init_5 : decode cX1_init 5 = .ok (.bipush 8, 2) := by decide +kernel
theorem dX1_init_7 : decode cX1_init 7 = .ok (.anewarray 11, 3) := by decide +kernel
theorem dX1_init_10 : decode cX1_init 10 = .ok (.putfield 13, 3) := by decide +kernel
theorem dX1_init_13 : decode cX1_init 13 = .ok (.aload_n 0, 1) := by decide +kernel
theorem dX1_init_14 : decode cX1_init 14 = .ok (.iconst 0, 1) := by decide +kernel
theorem dX1_init_15 : decode cX1_init 15 = .ok (.putfield 17, 3) := by decide +kernel
theorem dX1_init_18 : decode cX1_init 18 = .ok (.return_, 1) := by decide +kernel
theorem dX1_add_0 : decode cX1_add 0 = .ok (.aload_n 0, 1) := by decide +kernel
theorem dX1_add_1 : decode cX1_add 1 = .ok (.getfield 17, 3) := by decide +kernel
theorem dX1_add_4 : decode cX1_add 4 = .ok (.bipush 8, 2) := by decide +kernel
theorem dX1_add_6 : decode cX1_add 6 = .ok (.if_icmp .ge 23, 3) := by decide +kernel
theorem dX1_add_9 : decode cX1_add 9 = .ok (.aload_n 0, 1) := by decide +kernel
theorem dX1_add_10 : decode cX1_add 10 = .ok (.getfield 13, 3) := by decide +kernel
theorem dX1_add_13 : decode cX1_add 13 = .ok (.aload_n 0, 1) := by decide +kernel
theorem dX1_add_14 : decode cX1_add 14 = .ok (.getfield 17, 3) := by decide +kernel
theorem dX1_add_17 : decode cX1_add 17 = .ok (.aload_n 1, 1) := by decide +kernel
theorem dX1_add_18 : decode cX1_add 18 = .ok (.aastore, 1) := by decide +kernel
theorem dX1_add_19 : decode cX1_add 19 = .ok (.aload_n 0, 1) := by decide +kernel
theorem dX1_add_20 : decode cX1_add 20 = .ok (.dup, 1) := by decide +kernel
theorem dX1_add_21 : decode cX1_add 21 = .ok (.getfield 17, 3) := by decide +kernel
theorem dX1_add_24 : decode cX1_add 24 = .ok (.iconst 1, 1) := by decide +kernel
theorem dX1_add_25 : decode cX1_add 25 = .ok (.iadd, 1) := by decide +kernel
theorem dX1_add_26 : decode cX1_add 26 = .ok (.putfield 17, 3) := by decide +kernel
theorem dX1_add_29 : decode cX1_add 29 = .ok (.return_, 1) := by decide +kernel
theorem dX1_remove_0 : decode cX1_remove 0 = .ok (.iload_n 1, 1) := by decide +kernel
theorem dX1_remove_1 : decode cX1_remove 1 = .ok (.istore_n 2, 1) := by decide +kernel
theorem dX1_remove_2 : decode cX1_remove 2 = .ok (.iload_n 2, 1) := by decide +kernel
theorem dX1_remove_3 : decode cX1_remove 3 = .ok (.iconst 1, 1) := by decide +kernel
theorem dX1_remove_4 : decode cX1_remove 4 = .ok (.iadd, 1) := by decide +kernel
theorem dX1_remove_5 : decode cX1_remove 5 = .ok (.aload_n 0, 1) := by decide +kernel
theorem dX1_remove_6 : decode cX1_remove 6 = .ok (.getfield 17, 3) := by decide +kernel
theorem dX1_remove_9 : decode cX1_remove 9 = .ok (.if_icmp .ge 23, 3) := by decide +kernel
theorem dX1_remove_12 : decode cX1_remove 12 = .ok (.aload_n 0, 1) := by decide +kernel
theorem dX1_remove_13 : decode cX1_remove 13 = .ok (.getfield 13, 3) := by decide +kernel
theorem dX1_remove_16 : decode cX1_remove 16 = .ok (.iload_n 2, 1) := by decide +kernel
theorem dX1_remove_17 : decode cX1_remove 17 = .ok (.aload_n 0, 1) := by decide +kernel
theorem dX1_remove_18 : decode cX1_remove 18 = .ok (.getfield 13, 3) := by decide +kernel
theorem dX1_remove_21 : decode cX1_remove 21 = .ok (.iload_n 2, 1) := by decide +kernel
theorem dX1_remove_22 : decode cX1_remove 22 = .ok (.iconst 1, 1) := by decide +kernel
theorem dX1_remove_23 : decode cX1_remove 23 = .ok (.iadd, 1) := by decide +kernel
theorem dX1_remove_24 : decode cX1_remove 24 = .ok (.aaload, 1) := by decide +kernel
theorem dX1_remove_25 : decode cX1_remove 25 = .ok (.aastore, 1) := by decide +kernel
theorem dX1_remove_26 : decode cX1_remove 26 = .ok (.iinc 2 1, 3) := by decide +kernel
theorem dX1_remove_29 : decode cX1_remove 29 = .ok (.goto (-27), 3) := by decide +kernel
theorem dX1_remove_32 : decode cX1_remove 32 = .ok (.aload_n 0, 1) := by decide +kernel
theorem dX1_remove_33 : decode cX1_remove 33 = .ok (.dup, 1) := by decide +kernel
theorem dX1_remove_34 : decode cX1_remove 34 = .ok (.getfield 17, 3) := by decide +kernel
theorem dX1_remove_37 : decode cX1_remove 37 = .ok (.iconst 1, 1) := by decide +kernel
theorem dX1_remove_38 : decode cX1_remove 38 = .ok (.isub, 1) := by decide +kernel
theorem dX1_remove_39 : decode cX1_remove 39 = .ok (.putfield 17, 3) := by decide +kernel
theorem dX1_remove_42 : decode cX1_remove 42 = .ok (.return_, 1) := by decide +kernel
theorem dX1_copyFrom_0 : decode cX1_copyFrom 0 = .ok (.aload_n 1, 1) := by decide +kernel
theorem dX1_copyFrom_1 : decode cX1_copyFrom 1 = .ok (.getfield 13, 3) := by decide +kernel
theorem dX1_copyFrom_4 : decode cX1_copyFrom 4 = .ok (.iconst 0, 1) := by decide +kernel
theorem dX1_copyFrom_5 : decode cX1_copyFrom 5 = .ok (.aload_n 0, 1) := by decide +kernel
theorem dX1_copyFrom_6 : decode cX1_copyFrom 6 = .ok (.getfield 13, 3) := by decide +kernel
theorem dX1_copyFrom_9 : decode cX1_copyFrom 9 = .ok (.iconst 0, 1) := by decide +kernel
theorem dX1_copyFrom_10 : decode cX1_copyFrom 10 = .ok (.bipush 8, 2) := by decide +kernel
theorem dX1_copyFrom_12 : decode cX1_copyFrom 12 = .ok (.invokestatic 21, 3) := by decide +kernel
theorem dX1_copyFrom_15 : decode cX1_copyFrom 15 = .ok (.aload_n 0, 1) := by decide +kernel
theorem dX1_copyFrom_16 : decode cX1_copyFrom 16 = .ok (.aload_n 1, 1) := by decide +kernel
theorem dX1_copyFrom_17 : decode cX1_copyFrom 17 = .ok (.getfield 17, 3) := by decide +kernel
theorem dX1_copyFrom_20 : decode cX1_copyFrom 20 = .ok (.putfield 17, 3) := by decide +kernel
theorem dX1_copyFrom_23 : decode cX1_copyFrom 23 = .ok (.return_, 1) := by decide +kernel
set_option maxRecDepth 20000 in
theorem ggX1_step_X8_step : GoodIn wsX1_step wsX8_step := goodIn_r _ [8, 9, 10, 11, 12, 13, 14, 7, 15, 16, 17, 18, 19, 20, 23, 24, 25, 26, 27] (by decide +kernel) (by decide +kernel)
set_option maxRecDepth 20000 in
theorem gX1_step_X8_step : GoodIn wsX1_step (wsV RX1 28 RX8 yX8_step wsX8_step) := goodIn_app (goodIn_of _ (by decide +kernel)) ggX1_step_X8_step
theorem dX1_step_0 : decode cX1_step 0 = .ok (.iconst 4, 1) := by decide +kernel
theorem dX1_step_1 : decode cX1_step 1 = .ok (.iload_n 1, 1) := by decide +kernel
theorem dX1_step_2 : decode cX1_step 2 = .ok (.imul, 1) := by decide +kernel
theorem dX1_step_3 : decode cX1_step 3 = .ok (.istore 5, 2) := by decide +kernel
theorem dX1_step_5 : decode cX1_step 5 = .ok (.lconst 0, 1) := by decide +kernel
theorem dX1_step_6 : decode cX1_step 6 = .ok (.lstore 6, 2) := by decide +kernel
theorem dX1_step_8 : decode cX1_step 8 = .ok (.iload 5, 2) := by decide +kernel
theorem dX1_step_10 : decode cX1_step 10 = .ok (.istore 8, 2) := by decide +kernel
theorem dX1_step_12 : decode cX1_step 12 = .ok (.iload 8, 2) := by decide +kernel
theorem dX1_step_14 : decode cX1_step 14 = .ok (.iload 5, 2) := by decide +kernel
theorem dX1_step_16 : decode cX1_step 16 = .ok (.iconst 4, 1) := by decide +kernel
theorem dX1_step_17 : decode cX1_step 17 = .ok (.iadd, 1) := by decide +kernel
theorem dX1_step_18 : decode cX1_step 18 = .ok (.if_icmp .ge 61, 3) := by decide +kernel
theorem dX1_step_21 : decode cX1_step 21 = .ok (.iload 8, 2) := by decide +kernel
theorem dX1_step_23 : decode cX1_step 23 = .ok (.aload_n 0, 1) := by decide +kernel
theorem dX1_step_24 : decode cX1_step 24 = .ok (.getfield 17, 3) := by decide +kernel
theorem dX1_step_27 : decode cX1_step 27 = .ok (.if_icmp .ge 52, 3) := by decide +kernel
theorem dX1_step_30 : decode cX1_step 30 = .ok (.bipush 16, 2) := by decide +kernel
theorem dX1_step_32 : decode cX1_step 32 = .ok (.iload 8, 2) := by decide +kernel
theorem dX1_step_34 : decode cX1_step 34 = .ok (.iload 5, 2) := by decide +kernel
theorem dX1_step_36 : decode cX1_step 36 = .ok (.isub, 1) := by decide +kernel
theorem dX1_step_37 : decode cX1_step 37 = .ok (.imul, 1) := by decide +kernel
theorem dX1_step_38 : decode cX1_step 38 = .ok (.istore 9, 2) := by decide +kernel
theorem dX1_step_40 : decode cX1_step 40 = .ok (.lload_n 2, 1) := by decide +kernel
theorem dX1_step_41 : decode cX1_step 41 = .ok (.iload 9, 2) := by decide +kernel
theorem dX1_step_43 : decode cX1_step 43 = .ok (.lushr, 1) := by decide +kernel
theorem dX1_step_44 : decode cX1_step 44 = .ok (.l2i, 1) := by decide +kernel
theorem dX1_step_45 : decode cX1_step 45 = .ok (.ldc 27, 2) := by decide +kernel
theorem dX1_step_47 : decode cX1_step 47 = .ok (.iand, 1) := by decide +kernel
theorem dX1_step_48 : decode cX1_step 48 = .ok (.istore 10, 2) := by decide +kernel
theorem dX1_step_50 : decode cX1_step 50 = .ok (.lload 6, 2) := by decide +kernel
theorem dX1_step_52 : decode cX1_step 52 = .ok (.aload_n 0, 1) := by decide +kernel
theorem dX1_step_53 : decode cX1_step 53 = .ok (.getfield 13, 3) := by decide +kernel
theorem dX1_step_56 : decode cX1_step 56 = .ok (.iload 8, 2) := by decide +kernel
theorem dX1_step_58 : decode cX1_step 58 = .ok (.aaload, 1) := by decide +kernel
theorem dX1_step_59 : decode cX1_step 59 = .ok (.iload 10, 2) := by decide +kernel
theorem dX1_step_61 : decode cX1_step 61 = .ok (.iload 4, 2) := by decide +kernel
theorem dX1_step_63 : decode cX1_step 63 = .ok (.invokevirtual 28, 3) := by decide +kernel
theorem dX1_step_66 : decode cX1_step 66 = .ok (.i2l, 1) := by decide +kernel
theorem dX1_step_67 : decode cX1_step 67 = .ok (.iload 9, 2) := by decide +kernel
theorem dX1_step_69 : decode cX1_step 69 = .ok (.lshl, 1) := by decide +kernel
theorem dX1_step_70 : decode cX1_step 70 = .ok (.lor, 1) := by decide +kernel
theorem dX1_step_71 : decode cX1_step 71 = .ok (.lstore 6, 2) := by decide +kernel
theorem dX1_step_73 : decode cX1_step 73 = .ok (.iinc 8 1, 3) := by decide +kernel
theorem dX1_step_76 : decode cX1_step 76 = .ok (.goto (-64), 3) := by decide +kernel
theorem dX1_step_79 : decode cX1_step 79 = .ok (.lload 6, 2) := by decide +kernel
theorem dX1_step_81 : decode cX1_step 81 = .ok (.lreturn, 1) := by decide +kernel
set_option maxRecDepth 20000 in
theorem ggX1_valueAt_X8_valueAt : GoodIn wsX1_valueAt wsX8_valueAt := goodIn_r _ [7, 8, 9, 12, 13, 14, 15, 16] (by decide +kernel) (by decide +kernel)
set_option maxRecDepth 20000 in
theorem gX1_valueAt_X8_valueAt : GoodIn wsX1_valueAt (wsV RX1 32 RX8 yX8_valueAt wsX8_valueAt) := goodIn_app (goodIn_of _ (by decide +kernel)) ggX1_valueAt_X8_valueAt
theorem dX1_valueAt_0 : decode cX1_valueAt 0 = .ok (.iload_n 1, 1) := by decide +kernel
theorem dX1_valueAt_1 : decode cX1_valueAt 1 = .ok (.iconst 4, 1) := by decide +kernel
theorem dX1_valueAt_2 : decode cX1_valueAt 2 = .ok (.if_icmp .ge 7, 3) := by decide +kernel
theorem dX1_valueAt_5 : decode cX1_valueAt 5 = .ok (.lload_n 2, 1) := by decide +kernel
theorem dX1_valueAt_6 : decode cX1_valueAt 6 = .ok (.goto 5, 3) := by decide +kernel
theorem dX1_valueAt_9 : decode cX1_valueAt 9 = .ok (.lload 4, 2) := by decide +kernel
theorem dX1_valueAt_11 : decode cX1_valueAt 11 = .ok (.lstore 6, 2) := by decide +kernel
theorem dX1_valueAt_13 : decode cX1_valueAt 13 = .ok (.aload_n 0, 1) := by decide +kernel
theorem dX1_valueAt_14 : decode cX1_valueAt 14 = .ok (.getfield 13, 3) := by decide +kernel
theorem dX1_valueAt_17 : decode cX1_valueAt 17 = .ok (.iload_n 1, 1) := by decide +kernel
theorem dX1_valueAt_18 : decode cX1_valueAt 18 = .ok (.aaload, 1) := by decide +kernel
theorem dX1_valueAt_19 : decode cX1_valueAt 19 = .ok (.lload 6, 2) := by decide +kernel
theorem dX1_valueAt_21 : decode cX1_valueAt 21 = .ok (.bipush 16, 2) := by decide +kernel
theorem dX1_valueAt_23 : decode cX1_valueAt 23 = .ok (.iload_n 1, 1) := by decide +kernel
theorem dX1_valueAt_24 : decode cX1_valueAt 24 = .ok (.iconst 3, 1) := by decide +kernel
theorem dX1_valueAt_25 : decode cX1_valueAt 25 = .ok (.iand, 1) := by decide +kernel
theorem dX1_valueAt_26 : decode cX1_valueAt 26 = .ok (.imul, 1) := by decide +kernel
theorem dX1_valueAt_27 : decode cX1_valueAt 27 = .ok (.lushr, 1) := by decide +kernel
theorem dX1_valueAt_28 : decode cX1_valueAt 28 = .ok (.l2i, 1) := by decide +kernel
theorem dX1_valueAt_29 : decode cX1_valueAt 29 = .ok (.ldc 27, 2) := by decide +kernel
theorem dX1_valueAt_31 : decode cX1_valueAt 31 = .ok (.iand, 1) := by decide +kernel
theorem dX1_valueAt_32 : decode cX1_valueAt 32 = .ok (.invokevirtual 32, 3) := by decide +kernel
theorem dX1_valueAt_35 : decode cX1_valueAt 35 = .ok (.ireturn, 1) := by decide +kernel
set_option maxRecDepth 20000 in
theorem ggX1_signatureAt_X1_valueAt : GoodIn wsX1_signatureAt wsX1_valueAt := goodIn_r _ [8, 2, 9, 10, 11, 12, 13, 14, 15, 16, 17, 18, 19, 20, 21, 22, 23] (by decide +kernel) (by decide +kernel)
set_option maxRecDepth 20000 in
theorem gX1_signatureAt_X1_valueAt : GoodIn wsX1_signatureAt (wsV RX1 36 RX1 yX1_valueAt wsX1_valueAt) := goodIn_app (goodIn_of _ (by decide +kernel)) ggX1_signatureAt_X1_valueAt
theorem dX1_signatureAt_0 : decode cX1_signatureAt 0 = .ok (.iconst 0, 1) := by decide +kernel
theorem dX1_signatureAt_1 : decode cX1_signatureAt 1 = .ok (.istore 5, 2) := by decide +kernel
theorem dX1_signatureAt_3 : decode cX1_signatureAt 3 = .ok (.aload_n 0, 1) := by decide +kernel
theorem dX1_signatureAt_4 : decode cX1_signatureAt 4 = .ok (.getfield 17, 3) := by decide +kernel
theorem dX1_signatureAt_7 : decode cX1_signatureAt 7 = .ok (.iconst 1, 1) := by decide +kernel
theorem dX1_signatureAt_8 : decode cX1_signatureAt 8 = .ok (.isub, 1) := by decide +kernel
theorem dX1_signatureAt_9 : decode cX1_signatureAt 9 = .ok (.istore 6, 2) := by decide +kernel
theorem dX1_signatureAt_11 : decode cX1_signatureAt 11 = .ok (.iload 6, 2) := by decide +kernel
theorem dX1_signatureAt_13 : decode cX1_signatureAt 13 = .ok (.ifCond .lt 33, 3) := by decide +kernel
theorem dX1_signatureAt_16 : decode cX1_signatureAt 16 = .ok (.aload_n 0, 1) := by decide +kernel
theorem dX1_signatureAt_17 : decode cX1_signatureAt 17 = .ok (.iload 6, 2) := by decide +kernel
theorem dX1_signatureAt_19 : decode cX1_signatureAt 19 = .ok (.lload_n 1, 1) := by decide +kernel
theorem dX1_signatureAt_20 : decode cX1_signatureAt 20 = .ok (.lload_n 3, 1) := by decide +kernel
theorem dX1_signatureAt_21 : decode cX1_signatureAt 21 = .ok (.invokevirtual 36, 3) := by decide +kernel
theorem dX1_signatureAt_24 : decode cX1_signatureAt 24 = .ok (.aload_n 0, 1) := by decide +kernel
theorem dX1_signatureAt_25 : decode cX1_signatureAt 25 = .ok (.getfield 13, 3) := by decide +kernel
theorem dX1_signatureAt_28 : decode cX1_signatureAt 28 = .ok (.iload 6, 2) := by decide +kernel
theorem dX1_signatureAt_30 : decode cX1_signatureAt 30 = .ok (.aaload, 1) := by decide +kernel
theorem dX1_signatureAt_31 : decode cX1_signatureAt 31 = .ok (.getfield 39, 3) := by decide +kernel
theorem dX1_signatureAt_34 : decode cX1_signatureAt 34 = .ok (.iload 5, 2) := by decide +kernel
theorem dX1_signatureAt_36 : decode cX1_signatureAt 36 = .ok (.imul, 1) := by decide +kernel
theorem dX1_signatureAt_37 : decode cX1_signatureAt 37 = .ok (.iadd, 1) := by decide +kernel
theorem dX1_signatureAt_38 : decode cX1_signatureAt 38 = .ok (.istore 5, 2) := by decide +kernel
theorem dX1_signatureAt_40 : decode cX1_signatureAt 40 = .ok (.iinc 6 (-1), 3) := by decide +kernel
theorem dX1_signatureAt_43 : decode cX1_signatureAt 43 = .ok (.goto (-32), 3) := by decide +kernel
theorem dX1_signatureAt_46 : decode cX1_signatureAt 46 = .ok (.iload 5, 2) := by decide +kernel
theorem dX1_signatureAt_48 : decode cX1_signatureAt 48 = .ok (.ireturn, 1) := by decide +kernel
theorem dX2_init_0 : decode cX2_init 0 = .ok (.aload_n 0, 1) := by decide +kernel
theorem dX2_init_1 : decode cX2_init 1 = .ok (.invokespecial 3, 3) := by decide +kernel
theorem dX2_init_4 : decode cX2_init 4 = .ok (.aload_n 0, 1) := by decide +kernel
theorem dX2_init_5 : decode cX2_init 5 = .ok (.iload_n 1, 1) := by decide +kernel
theorem dX2_init_6 : decode cX2_init 6 = .ok (.putfield 9, 3) := by decide +kernel
theorem dX2_init_9 : decode cX2_init 9 = .ok (.aload_n 0, 1) := by decide +kernel
theorem dX2_init_10 : decode cX2_init 10 = .ok (.aload_n 2, 1) := by decide +kernel
theorem dX2_init_11 : decode cX2_init 11 = .ok (.arraylength, 1) := by decide +kernel
theorem dX2_init_12 : decode cX2_init 12 = .ok (.putfield 15, 3) := by decide +kernel
theorem dX2_init_15 : decode cX2_init 15 = .ok (.aload_n 0, 1) := by decide +kernel
theorem dX2_init_16 : decode cX2_init 16 = .ok (.iload 4, 2) := by decide +kernel
theorem dX2_init_18 : decode cX2_init 18 = .ok (.putfield 18, 3) := by decide +kernel
theorem dX2_init_21 : decode cX2_init 21 = .ok (.aload_n 0, 1) := by decide +kernel
theorem dX2_init_22 : decode cX2_init 22 = .ok (.aload_n 2, 1) := by decide +kernel
theorem dX2_init_23 : decode cX2_init 23 = .ok (.putfield 21, 3) := by decide +kernel
theorem dX2_init_26 : decode cX2_init 26 = .ok (.aload_n 0, 1) := by decide +kernel
theorem dX2_init_27 : decode cX2_init 27 = .ok (.aload_n 3, 1) := by decide +kernel
theorem dX2_init_28 : decode cX2_init 28 = .ok (.putfield 25, 3) := by decide +kernel
theorem dX2_init_31 : decode cX2_init 31 = .ok (.return_, 1) := by decide +kernel
set_option maxRecDepth 20000 in
theorem ggX2_basic_X2_init : GoodIn wsX2_basic wsX2_init := goodIn_r _ [8, 9, 10, 11, 12, 13, 14, 15, 16, 17, 18, 19, 20, 21] (by decide +kernel) (by decide +kernel)
set_option maxRecDepth 20000 in
theorem gX2_basic_X2_init : GoodIn wsX2_basic (wsX2_init) := ggX2_basic_X2_init
theorem dX2_basic_0 : decode cX2_basic 0 = .ok (.iconst 1, 1) := by decide +kernel
theorem dX2_basic_1 : decode cX2_basic 1 = .ok (.anewarray 29, 3) := by decide +kernel
theorem dX2_basic_4 : decode cX2_basic 4 = .ok (.astore_n 2, 1) := by decide +kernel
theorem dX2_basic_5 : decode cX2_basic 5 = .ok (.aload_n 2, 1) := by decide +kernel
theorem dX2_basic_6 : decode cX2_basic 6 = .ok (.iconst 0, 1) := by decide +kernel
theorem dX2_basic_7 : decode cX2_basic 7 = .ok (.aload_n 0, 1) := by decide +kernel
theorem dX2_basic_8 : decode cX2_basic 8 = .ok (.aastore, 1) := by decide +kernel
theorem dX2_basic_9 : decode cX2_basic 9 = .ok (.iconst 1, 1) := by decide +kernel
theorem dX2_basic_10 : decode cX2_basic 10 = .ok (.newarray .int, 2) := by decide +kernel
theorem dX2_basic_12 : decode cX2_basic 12 = .ok (.astore_n 3, 1) := by decide +kernel
theorem dX2_basic_13 : decode cX2_basic 13 = .ok (.aload_n 3, 1) := by decide +kernel
theorem dX2_basic_14 : decode cX2_basic 14 = .ok (.iconst 0, 1) := by decide +kernel
theorem dX2_basic_15 : decode cX2_basic 15 = .ok (.iload_n 1, 1) := by decide +kernel
theorem dX2_basic_16 : decode cX2_basic 16 = .ok (.iastore, 1) := by decide +kernel
theorem dX2_basic_17 : decode cX2_basic 17 = .ok (.new 10, 3) := by decide +kernel
theorem dX2_basic_20 : decode cX2_basic 20 = .ok (.dup, 1) := by decide +kernel
theorem dX2_basic_21 : decode cX2_basic 21 = .ok (.iconst 0, 1) := by decide +kernel
theorem dX2_basic_22 : decode cX2_basic 22 = .ok (.aload_n 2, 1) := by decide +kernel
theorem dX2_basic_23 : decode cX2_basic 23 = .ok (.aload_n 3, 1) := by decide +kernel
theorem dX2_basic_24 : decode cX2_basic 24 = .ok (.iconst 2, 1) := by decide +kernel
theorem dX2_basic_25 : decode cX2_basic 25 = .ok (.invokespecial 31, 3) := by decide +kernel
theorem dX2_basic_28 : decode cX2_basic 28 = .ok (.areturn, 1) := by decide +kernel
set_option maxRecDepth 20000 in
theorem ggX2_complementOf_X2_cases : GoodIn wsX2_complementOf wsX2_cases := goodIn_r _ [10, 11, 19, 20, 21, 22, 23] (by decide +kernel) (by decide +kernel)
set_option maxRecDepth 20000 in
theorem gX2_complementOf_X2_cases : GoodIn wsX2_complementOf (wsV RX2 34 RX2 yX2_cases wsX2_cases) := goodIn_app (goodIn_of _ (by decide +kernel)) ggX2_complementOf_X2_cases
set_option maxRecDepth 20000 in
theorem ggX2_complementOf_X2_init : GoodIn wsX2_complementOf wsX2_init := goodIn_r _ [14, 15, 16, 17, 18, 11, 6, 4, 5, 19, 20, 21, 22, 23] (by decide +kernel) (by decide +kernel)
set_option maxRecDepth 20000 in
theorem gX2_complementOf_X2_init : GoodIn wsX2_complementOf (wsX2_init) := ggX2_complementOf_X2_init
theorem dX2_complementOf_0 : decode cX2_complementOf 0 = .ok (.iconst 1, 1) := by decide +kernel
theorem dX2_complementOf_1 : decode cX2_complementOf 1 = .ok (.aload_n 0, 1) := by decide +kernel
theorem dX2_complementOf_2 : decode cX2_complementOf 2 = .ok (.invokevirtual 34, 3) := by decide +kernel
theorem dX2_complementOf_5 : decode cX2_complementOf 5 = .ok (.ishl, 1) := by decide +kernel
theorem dX2_complementOf_6 : decode cX2_complementOf 6 = .ok (.iconst 1, 1) := by decide +kernel
theorem dX2_complementOf_7 : decode cX2_complementOf 7 = .ok (.isub, 1) := by decide +kernel
theorem dX2_complementOf_8 : decode cX2_complementOf 8 = .ok (.istore_n 1, 1) := by decide +kernel
theorem dX2_complementOf_9 : decode cX2_complementOf 9 = .ok (.new 10, 3) := by decide +kernel
theorem dX2_complementOf_12 : decode cX2_complementOf 12 = .ok (.dup, 1) := by decide +kernel
theorem dX2_complementOf_13 : decode cX2_complementOf 13 = .ok (.iconst 1, 1) := by decide +kernel
theorem dX2_complementOf_14 : decode cX2_complementOf 14 = .ok (.aload_n 0, 1) := by decide +kernel
theorem dX2_complementOf_15 : decode cX2_complementOf 15 = .ok (.getfield 21, 3) := by decide +kernel
theorem dX2_complementOf_18 : decode cX2_complementOf 18 = .ok (.aload_n 0, 1) := by decide +kernel
theorem dX2_complementOf_19 : decode cX2_complementOf 19 = .ok (.getfield 25, 3) := by decide +kernel
theorem dX2_complementOf_22 : decode cX2_complementOf 22 = .ok (.aload_n 0, 1) := by decide +kernel
theorem dX2_complementOf_23 : decode cX2_complementOf 23 = .ok (.getfield 18, 3) := by decide +kernel
theorem dX2_complementOf_26 : decode cX2_complementOf 26 = .ok (.iload_n 1, 1) := by decide +kernel
theorem dX2_complementOf_27 : decode cX2_complementOf 27 = .ok (.ixor, 1) := by decide +kernel
theorem dX2_complementOf_28 : decode cX2_complementOf 28 = .ok (.invokespecial 31, 3) := by decide +kernel
theorem dX2_complementOf_31 : decode cX2_complementOf 31 = .ok (.areturn, 1) := by decide +kernel
set_option maxRecDepth 20000 in
theorem ggX2_joined_X2_joinedTable : GoodIn wsX2_joined wsX2_joinedTable := goodIn_r _ [15, 1, 16, 17, 18, 12, 19, 20, 21, 22, 23, 24, 32, 33, 34, 35, 36] (by decide +kernel) (by decide +kernel)
set_option maxRecDepth 20000 in
theorem gX2_joined_X2_joinedTable : GoodIn wsX2_joined (va_wsS RX2 44 yX2_joinedTable wsX2_joinedTable) := goodIn_app (goodIn_of _ (by decide +kernel)) ggX2_joined_X2_joinedTable
set_option maxRecDepth 20000 in
theorem ggX2_joined_X2_init : GoodIn wsX2_joined wsX2_init := goodIn_r _ [27, 28, 29, 30, 31, 1, 24, 3, 9, 32, 33, 34, 35, 36] (by decide +kernel) (by decide +kernel)
set_option maxRecDepth 20000 in
theorem gX2_joined_X2_init : GoodIn wsX2_joined (wsX2_init) := ggX2_joined_X2_init
theorem dX2_joined_0 : decode cX2_joined 0 = .ok (.aload_n 1, 1) := by decide +kernel
theorem dX2_joined_1 : decode cX2_joined 1 = .ok (.getfield 15, 3) := by decide +kernel
theorem dX2_joined_4 : decode cX2_joined 4 = .ok (.aload_n 2, 1) := by decide +kernel
theorem dX2_joined_5 : decode cX2_joined 5 = .ok (.getfield 15, 3) := by decide +kernel
theorem dX2_joined_8 : decode cX2_joined 8 = .ok (.iadd, 1) := by decide +kernel
theorem dX2_joined_9 : decode cX2_joined 9 = .ok (.anewarray 29, 3) := by decide +kernel
theorem dX2_joined_12 : decode cX2_joined 12 = .ok (.astore_n 3, 1) := by decide +kernel
theorem dX2_joined_13 : decode cX2_joined 13 = .ok (.aload_n 1, 1) := by decide +kernel
theorem dX2_joined_14 : decode cX2_joined 14 = .ok (.getfield 21, 3) := by decide +kernel
theorem dX2_joined_17 : decode cX2_joined 17 = .ok (.iconst 0, 1) := by decide +kernel
theorem dX2_joined_18 : decode cX2_joined 18 = .ok (.aload_n 3, 1) := by decide +kernel
theorem dX2_joined_19 : decode cX2_joined 19 = .ok (.iconst 0, 1) := by decide +kernel
theorem dX2_joined_20 : decode cX2_joined 20 = .ok (.aload_n 1, 1) := by decide +kernel
theorem dX2_joined_21 : decode cX2_joined 21 = .ok (.getfield 15, 3) := by decide +kernel
theorem dX2_joined_24 : decode cX2_joined 24 = .ok (.invokestatic 38, 3) := by decide +kernel
theorem dX2_joined_27 : decode cX2_joined 27 = .ok (.aload_n 2, 1) := by decide +kernel
theorem dX2_joined_28 : decode cX2_joined 28 = .ok (.getfield 21, 3) := by decide +kernel
theorem dX2_joined_31 : decode cX2_joined 31 = .ok (.iconst 0, 1) := by decide +kernel
theorem dX2_joined_32 : decode cX2_joined 32 = .ok (.aload_n 3, 1) := by decide +kernel
theorem dX2_joined_33 : decode cX2_joined 33 = .ok (.aload_n 1, 1) := by decide +kernel
theorem dX2_joined_34 : decode cX2_joined 34 = .ok (.getfield 15, 3) := by decide +kernel
theorem dX2_joined_37 : decode cX2_joined 37 = .ok (.aload_n 2, 1) := by decide +kernel
theorem dX2_joined_38 : decode cX2_joined 38 = .ok (.getfield 15, 3) := by decide +kernel
theorem dX2_joined_41 : decode cX2_joined 41 = .ok (.invokestatic 38, 3) := by decide +kernel
theorem dX2_joined_44 : decode cX2_joined 44 = .ok (.aload_n 1, 1) := by decide +kernel
theorem dX2_joined_45 : decode cX2_joined 45 = .ok (.getfield 15, 3) := by decide +kernel
theorem dX2_joined_48 : decode cX2_joined 48 = .ok (.aload_n 2, 1) := by decide +kernel
theorem dX2_joined_49 : decode cX2_joined 49 = .ok (.getfield 15, 3) := by decide +kernel
theorem dX2_joined_52 : decode cX2_joined 52 = .ok (.iadd, 1) := by decide +kernel
theorem dX2_joined_53 : decode cX2_joined 53 = .ok (.newarray .int, 2) := by decide +kernel
theorem dX2_joined_55 : decode cX2_joined 55 = .ok (.astore 4, 2) := by decide +kernel
theorem dX2_joined_57 : decode cX2_joined 57 = .ok (.aload_n 1, 1) := by decide +kernel
theorem dX2_joined_58 : decode cX2_joined 58 = .ok (.getfield 25, 3) := by decide +kernel
theorem dX2_joined_61 : decode cX2_joined 61 = .ok (.iconst 0, 1) := by decide +kernel
theorem dX2_joined_62 : decode cX2_joined 62 = .ok (.aload 4, 2) := by decide +kernel
theorem dX2_joined_64 : decode cX2_joined 64 = .ok (.iconst 0, 1) := by decide +kernel
theorem dX2_joined_65 : decode cX2_joined 65 = .ok (.aload_n 1, 1) := by decide +kernel
theorem dX2_joined_66 : decode cX2_joined 66 = .ok (.getfield 15, 3) := by decide +kernel
theorem dX2_joined_69 : decode cX2_joined 69 = .ok (.invokestatic 38, 3) := by decide +kernel
theorem dX2_joined_72 : decode cX2_joined 72 = .ok (.aload_n 2, 1) := by decide +kernel
theorem dX2_joined_73 : decode cX2_joined 73 = .ok (.getfield 25, 3) := by decide +kernel
theorem dX2_joined_76 : decode cX2_joined 76 = .ok (.iconst 0, 1) := by decide +kernel
theorem dX2_joined_77 : decode cX2_joined 77 = .ok (.aload 4, 2) := by decide +kernel
theorem dX2_joined_79 : decode cX2_joined 79 = .ok (.aload_n 1, 1) := by decide +kernel
theorem dX2_joined_80 : decode cX2_joined 80 = .ok (.getfield 15, 3) := by decide +kernel
theorem dX2_joined_83 : decode cX2_joined 83 = .ok (.aload_n 2, 1) := by decide +kernel
theorem dX2_joined_84 : decode cX2_joined 84 = .ok (.getfield 15, 3) := by decide +kernel
theorem dX2_joined_87 : decode cX2_joined 87 = .ok (.invokestatic 38, 3) := by decide +kernel
theorem dX2_joined_90 : decode cX2_joined 90 = .ok (.new 10, 3) := by decide +kernel
theorem dX2_joined_93 : decode cX2_joined 93 = .ok (.dup, 1) := by decide +kernel
theorem dX2_joined_94 : decode cX2_joined 94 = .ok (.iload_n 0, 1) := by decide +kernel
theorem dX2_joined_95 : decode cX2_joined 95 = .ok (.aload_n 3, 1) := by decide +kernel
theorem dX2_joined_96 : decode cX2_joined 96 = .ok (.aload 4, 2) := by decide +kernel
theorem dX2_joined_98 : decode cX2_joined 98 = .ok (.iload_n 0, 1) := by decide +kernel
theorem dX2_joined_99 : decode cX2_joined 99 = .ok (.aload_n 1, 1) := by decide +kernel
theorem dX2_joined_100 : decode cX2_joined 100 = .ok (.aload_n 2, 1) := by decide +kernel
theorem dX2_joined_101 : decode cX2_joined 101 = .ok (.invokestatic 44, 3) := by decide +kernel
theorem dX2_joined_104 : decode cX2_joined 104 = .ok (.invokespecial 31, 3) := by decide +kernel
theorem dX2_joined_107 : decode cX2_joined 107 = .ok (.areturn, 1) := by decide +kernel
set_option maxRecDepth 20000 in
theorem ggX2_joinedTable_X2_cases : GoodIn wsX2_joinedTable wsX2_cases := goodIn_r _ [6, 1, 12, 13, 14, 15, 16] (by decide +kernel) (by decide +kernel)
set_option maxRecDepth 20000 in
theorem gX2_joinedTable_X2_cases : GoodIn wsX2_joinedTable (wsV RX2 34 RX2 yX2_cases wsX2_cases) := goodIn_app (goodIn_of _ (by decide +kernel)) ggX2_joinedTable_X2_cases
set_option maxRecDepth 20000 in
theorem ggX2_joinedTable_X2_accepts : GoodIn wsX2_joinedTable wsX2_accepts := goodIn_r _ [10, 11, 12, 13, 14, 15, 16] (by decide +kernel) (by decide +kernel)
set_option maxRecDepth 20000 in
theorem gX2_joinedTable_X2_accepts : GoodIn wsX2_joinedTable (wsV RX2 48 RX2 yX2_accepts wsX2_accepts) := goodIn_app (goodIn_of _ (by decide +kernel)) ggX2_joinedTable_X2_accepts
theorem dX2_joinedTable_0 : decode cX2_joinedTable 0 = .ok (.iconst 0, 1) := by decide +kernel
theorem dX2_joinedTable_1 : decode cX2_joinedTable 1 = .ok (.istore_n 3, 1) := by decide +kernel
theorem dX2_joinedTable_2 : decode cX2_joinedTable 2 = .ok (.iconst 0, 1) := by decide +kernel
theorem dX2_joinedTable_3 : decode cX2_joinedTable 3 = .ok (.istore 4, 2) := by decide +kernel
theorem dX2_joinedTable_5 : decode cX2_joinedTable 5 = .ok (.iload 4, 2) := by decide +kernel
theorem dX2_joinedTable_7 : decode cX2_joinedTable 7 = .ok (.aload_n 1, 1) := by decide +kernel
theorem dX2_joinedTable_8 : decode cX2_joinedTable 8 = .ok (.invokevirtual 34, 3) := by decide +kernel
theorem dX2_joinedTable_11 : decode cX2_joinedTable 11 = .ok (.if_icmp .ge 110, 3) := by decide +kernel
theorem dX2_joinedTable_14 : decode cX2_joinedTable 14 = .ok (.iconst 0, 1) := by decide +kernel
theorem dX2_joinedTable_15 : decode cX2_joinedTable 15 = .ok (.istore 5, 2) := by decide +kernel
theorem dX2_joinedTable_17 : decode cX2_joinedTable 17 = .ok (.iload 5, 2) := by decide +kernel
theorem dX2_joinedTable_19 : decode cX2_joinedTable 19 = .ok (.aload_n 2, 1) := by decide +kernel
theorem dX2_joinedTable_20 : decode cX2_joinedTable 20 = .ok (.invokevirtual 34, 3) := by decide +kernel
theorem dX2_joinedTable_23 : decode cX2_joinedTable 23 = .ok (.if_icmp .ge 92, 3) := by decide +kernel
theorem dX2_joinedTable_26 : decode cX2_joinedTable 26 = .ok (.aload_n 1, 1) := by decide +kernel
theorem dX2_joinedTable_27 : decode cX2_joinedTable 27 = .ok (.iload 4, 2) := by decide +kernel
theorem dX2_joinedTable_29 : decode cX2_joinedTable 29 = .ok (.invokevirtual 48, 3) := by decide +kernel
theorem dX2_joinedTable_32 : decode cX2_joinedTable 32 = .ok (.ifCond .eq 16, 3) := by decide +kernel
theorem dX2_joinedTable_35 : decode cX2_joinedTable 35 = .ok (.aload_n 2, 1) := by decide +kernel
theorem dX2_joinedTable_36 : decode cX2_joinedTable 36 = .ok (.iload 5, 2) := by decide +kernel
theorem dX2_joinedTable_38 : decode cX2_joinedTable 38 = .ok (.invokevirtual 48, 3) := by decide +kernel
theorem dX2_joinedTable_41 : decode cX2_joinedTable 41 = .ok (.ifCond .eq 7, 3) := by decide +kernel
theorem dX2_joinedTable_44 : decode cX2_joinedTable 44 = .ok (.iconst 1, 1) := by decide +kernel
theorem dX2_joinedTable_45 : decode cX2_joinedTable 45 = .ok (.goto 4, 3) := by decide +kernel
theorem dX2_joinedTable_48 : decode cX2_joinedTable 48 = .ok (.iconst 0, 1) := by decide +kernel
theorem dX2_joinedTable_49 : decode cX2_joinedTable 49 = .ok (.istore 6, 2) := by decide +kernel
theorem dX2_joinedTable_51 : decode cX2_joinedTable 51 = .ok (.aload_n 1, 1) := by decide +kernel
theorem dX2_joinedTable_52 : decode cX2_joinedTable 52 = .ok (.iload 4, 2) := by decide +kernel
theorem dX2_joinedTable_54 : decode cX2_joinedTable 54 = .ok (.invokevirtual 48, 3) := by decide +kernel
theorem dX2_joinedTable_57 : decode cX2_joinedTable 57 = .ok (.ifCond .ne 12, 3) := by decide +kernel
theorem dX2_joinedTable_60 : decode cX2_joinedTable 60 = .ok (.aload_n 2, 1) := by decide +kernel
theorem dX2_joinedTable_61 : decode cX2_joinedTable 61 = .ok (.iload 5, 2) := by decide +kernel
theorem dX2_joinedTable_63 : decode cX2_joinedTable 63 = .ok (.invokevirtual 48, 3) := by decide +kernel
theorem dX2_joinedTable_66 : decode cX2_joinedTable 66 = .ok (.ifCond .eq 7, 3) := by decide +kernel
theorem dX2_joinedTable_69 : decode cX2_joinedTable 69 = .ok (.iconst 1, 1) := by decide +kernel
theorem dX2_joinedTable_70 : decode cX2_joinedTable 70 = .ok (.goto 4, 3) := by decide +kernel
theorem dX2_joinedTable_73 : decode cX2_joinedTable 73 = .ok (.iconst 0, 1) := by decide +kernel
theorem dX2_joinedTable_74 : decode cX2_joinedTable 74 = .ok (.istore 7, 2) := by decide +kernel
theorem dX2_joinedTable_76 : decode cX2_joinedTable 76 = .ok (.iload_n 0, 1) := by decide +kernel
theorem dX2_joinedTable_77 : decode cX2_joinedTable 77 = .ok (.iconst 2, 1) := by decide +kernel
theorem dX2_joinedTable_78 : decode cX2_joinedTable 78 = .ok (.if_icmp .ne 11, 3) := by decide +kernel
theorem dX2_joinedTable_81 : decode cX2_joinedTable 81 = .ok (.iload 6, 2) := by decide +kernel
theorem dX2_joinedTable_83 : decode cX2_joinedTable 83 = .ok (.ifCond .eq 26, 3) := by decide +kernel
theorem dX2_joinedTable_86 : decode cX2_joinedTable 86 = .ok (.goto 8, 3) := by decide +kernel
theorem dX2_joinedTable_89 : decode cX2_joinedTable 89 = .ok (.iload 7, 2) := by decide +kernel
theorem dX2_joinedTable_91 : decode cX2_joinedTable 91 = .ok (.ifCond .eq 18, 3) := by decide +kernel
theorem dX2_joinedTable_94 : decode cX2_joinedTable 94 = .ok (.iload_n 3, 1) := by decide +kernel
theorem dX2_joinedTable_95 : decode cX2_joinedTable 95 = .ok (.iconst 1, 1) := by decide +kernel
theorem dX2_joinedTable_96 : decode cX2_joinedTable 96 = .ok (.iload 4, 2) := by decide +kernel
theorem dX2_joinedTable_98 : decode cX2_joinedTable 98 = .ok (.iload 5, 2) := by decide +kernel
theorem dX2_joinedTable_100 : decode cX2_joinedTable 100 = .ok (.aload_n 1, 1) := by decide +kernel
theorem dX2_joinedTable_101 : decode cX2_joinedTable 101 = .ok (.getfield 15, 3) := by decide +kernel
theorem dX2_joinedTable_104 : decode cX2_joinedTable 104 = .ok (.ishl, 1) := by decide +kernel
theorem dX2_joinedTable_105 : decode cX2_joinedTable 105 = .ok (.ior, 1) := by decide +kernel
theorem dX2_joinedTable_106 : decode cX2_joinedTable 106 = .ok (.ishl, 1) := by decide +kernel
theorem dX2_joinedTable_107 : decode cX2_joinedTable 107 = .ok (.ior, 1) := by decide +kernel
theorem dX2_joinedTable_108 : decode cX2_joinedTable 108 = .ok (.istore_n 3, 1) := by decide +kernel
theorem dX2_joinedTable_109 : decode cX2_joinedTable 109 = .ok (.iinc 5 1, 3) := by decide +kernel
theorem dX2_joinedTable_112 : decode cX2_joinedTable 112 = .ok (.goto (-95), 3) := by decide +kernel
theorem dX2_joinedTable_115 : decode cX2_joinedTable 115 = .ok (.iinc 4 1, 3) := by decide +kernel
theorem dX2_joinedTable_118 : decode cX2_joinedTable 118 = .ok (.goto (-113), 3) := by decide +kernel
theorem dX2_joinedTable_121 : decode cX2_joinedTable 121 = .ok (.iload_n 3, 1) := by decide +kernel
theorem dX2_joinedTable_122 : decode cX2_joinedTable 122 = .ok (.ireturn, 1) := by decide +kernel
theorem dX2_cases_0 : decode cX2_cases 0 = .ok (.iconst 1, 1) := by decide +kernel
theorem dX2_cases_1 : decode cX2_cases 1 = .ok (.aload_n 0, 1) := by decide +kernel
theorem dX2_cases_2 : decode cX2_cases 2 = .ok (.getfield 15, 3) := by decide +kernel
theorem dX2_cases_5 : decode cX2_cases 5 = .ok (.ishl, 1) := by decide +kernel
theorem dX2_cases_6 : decode cX2_cases 6 = .ok (.ireturn, 1) := by decide +kernel
theorem dX2_accepts_0 : decode cX2_accepts 0 = .ok (.aload_n 0, 1) := by decide +kernel
theorem dX2_accepts_1 : decode cX2_accepts 1 = .ok (.getfield 18, 3) := by decide +kernel
theorem dX2_accepts_4 : decode cX2_accepts 4 = .ok (.iload_n 1, 1) := by decide +kernel
theorem dX2_accepts_5 : decode cX2_accepts 5 = .ok (.iushr, 1) := by decide +kernel
theorem dX2_accepts_6 : decode cX2_accepts 6 = .ok (.iconst 1, 1) := by decide +kernel
theorem dX2_accepts_7 : decode cX2_accepts 7 = .ok (.iand, 1) := by decide +kernel
theorem dX2_accepts_8 : decode cX2_accepts 8 = .ok (.iconst 1, 1) := by decide +kernel
theorem dX2_accepts_9 : decode cX2_accepts 9 = .ok (.if_icmp .ne 7, 3) := by decide +kernel
theorem dX2_accepts_12 : decode cX2_accepts 12 = .ok (.iconst 1, 1) := by decide +kernel
theorem dX2_accepts_13 : decode cX2_accepts 13 = .ok (.goto 4, 3) := by decide +kernel
theorem dX2_accepts_16 : decode cX2_accepts 16 = .ok (.iconst 0, 1) := by decide +kernel
theorem dX2_accepts_17 : decode cX2_accepts 17 = .ok (.ireturn, 1) := by decide +kernel
set_option maxRecDepth 20000 in
theorem ggX2_addTestsTo_X1_add : GoodIn wsX2_addTestsTo wsX1_add := goodIn_r _ [7, 8, 9, 15, 16] (by decide +kernel) (by decide +kernel)
set_option maxRecDepth 20000 in
theorem gX2_addTestsTo_X1_add : GoodIn wsX2_addTestsTo (wsV RX2 52 RX1 yX1_add wsX1_add) := goodIn_app (goodIn_of _ (by decide +kernel)) ggX2_addTestsTo_X1_add
theorem dX2_addTestsTo_0 : decode cX2_addTestsTo 0 = .ok (.iconst 0, 1) := by decide +kernel
theorem dX2_addTestsTo_1 : decode cX2_addTestsTo 1 = .ok (.istore_n 2, 1) := by decide +kernel
theorem dX2_addTestsTo_2 : decode cX2_addTestsTo 2 = .ok (.iload_n 2, 1) := by decide +kernel
theorem dX2_addTestsTo_3 : decode cX2_addTestsTo 3 = .ok (.aload_n 0, 1) := by decide +kernel
theorem dX2_addTestsTo_4 : decode cX2_addTestsTo 4 = .ok (.getfield 15, 3) := by decide +kernel
theorem dX2_addTestsTo_7 : decode cX2_addTestsTo 7 = .ok (.if_icmp .ge 19, 3) := by decide +kernel
theorem dX2_addTestsTo_10 : decode cX2_addTestsTo 10 = .ok (.aload_n 1, 1) := by decide +kernel
theorem dX2_addTestsTo_11 : decode cX2_addTestsTo 11 = .ok (.aload_n 0, 1) := by decide +kernel
theorem dX2_addTestsTo_12 : decode cX2_addTestsTo 12 = .ok (.getfield 21, 3) := by decide +kernel
theorem dX2_addTestsTo_15 : decode cX2_addTestsTo 15 = .ok (.iload_n 2, 1) := by decide +kernel
theorem dX2_addTestsTo_16 : decode cX2_addTestsTo 16 = .ok (.aaload, 1) := by decide +kernel
theorem dX2_addTestsTo_17 : decode cX2_addTestsTo 17 = .ok (.invokevirtual 52, 3) := by decide +kernel
theorem dX2_addTestsTo_20 : decode cX2_addTestsTo 20 = .ok (.iinc 2 1, 3) := by decide +kernel
theorem dX2_addTestsTo_23 : decode cX2_addTestsTo 23 = .ok (.goto (-21), 3) := by decide +kernel
theorem dX2_addTestsTo_26 : decode cX2_addTestsTo 26 = .ok (.return_, 1) := by decide +kernel
set_option maxRecDepth 20000 in
theorem ggX2_holds_X8_valueFor : GoodIn wsX2_holds wsX8_valueFor := goodIn_r _ [8, 9, 10, 11, 12, 13, 7, 14, 15, 16, 17, 18, 19, 20, 21, 22, 23, 24, 25, 26, 27, 28, 29, 30, 42, 43, 44, 45, 46, 47, 48, 49] (by decide +kernel) (by decide +kernel)
set_option maxRecDepth 20000 in
theorem gX2_holds_X8_valueFor : GoodIn wsX2_holds (wsV RX2 58 RX8 yX8_valueFor wsX8_valueFor) := goodIn_app (goodIn_of _ (by decide +kernel)) ggX2_holds_X8_valueFor
set_option maxRecDepth 20000 in
theorem ggX2_holds_X2_accepts : GoodIn wsX2_holds wsX2_accepts := goodIn_r _ [35, 36, 37, 38, 39, 40, 41] (by decide +kernel) (by decide +kernel)
set_option maxRecDepth 20000 in
theorem gX2_holds_X2_accepts : GoodIn wsX2_holds (wsV RX2 48 RX2 yX2_accepts wsX2_accepts) := goodIn_app (goodIn_of _ (by decide +kernel)) ggX2_holds_X2_accepts
theorem dX2_holds_0 : decode cX2_holds 0 = .ok (.iconst 0, 1) := by decide +kernel
theorem dX2_holds_1 : decode cX2_holds 1 = .ok (.istore_n 2, 1) := by decide +kernel
theorem dX2_holds_2 : decode cX2_holds 2 = .ok (.iconst 0, 1) := by decide +kernel
theorem dX2_holds_3 : decode cX2_holds 3 = .ok (.istore_n 3, 1) := by decide +kernel
theorem dX2_holds_4 : decode cX2_holds 4 = .ok (.iload_n 3, 1) := by decide +kernel
theorem dX2_holds_5 : decode cX2_holds 5 = .ok (.aload_n 0, 1) := by decide +kernel
theorem dX2_holds_6 : decode cX2_holds 6 = .ok (.getfield 15, 3) := by decide +kernel
theorem dX2_holds_9 : decode cX2_holds 9 = .ok (.if_icmp .ge 34, 3) := by decide +kernel
theorem dX2_holds_12 : decode cX2_holds 12 = .ok (.aload_n 0, 1) := by decide +kernel
theorem dX2_holds_13 : decode cX2_holds 13 = .ok (.getfield 21, 3) := by decide +kernel
theorem dX2_holds_16 : decode cX2_holds 16 = .ok (.iload_n 3, 1) := by decide +kernel
theorem dX2_holds_17 : decode cX2_holds 17 = .ok (.aaload, 1) := by decide +kernel
theorem dX2_holds_18 : decode cX2_holds 18 = .ok (.aload_n 1, 1) := by decide +kernel
theorem dX2_holds_19 : decode cX2_holds 19 = .ok (.invokevirtual 58, 3) := by decide +kernel
theorem dX2_holds_22 : decode cX2_holds 22 = .ok (.aload_n 0, 1) := by decide +kernel
theorem dX2_holds_23 : decode cX2_holds 23 = .ok (.getfield 25, 3) := by decide +kernel
theorem dX2_holds_26 : decode cX2_holds 26 = .ok (.iload_n 3, 1) := by decide +kernel
theorem dX2_holds_27 : decode cX2_holds 27 = .ok (.iaload, 1) := by decide +kernel
theorem dX2_holds_28 : decode cX2_holds 28 = .ok (.if_icmp .ne 9, 3) := by decide +kernel
theorem dX2_holds_31 : decode cX2_holds 31 = .ok (.iload_n 2, 1) := by decide +kernel
theorem dX2_holds_32 : decode cX2_holds 32 = .ok (.iconst 1, 1) := by decide +kernel
theorem dX2_holds_33 : decode cX2_holds 33 = .ok (.iload_n 3, 1) := by decide +kernel
theorem dX2_holds_34 : decode cX2_holds 34 = .ok (.ishl, 1) := by decide +kernel
theorem dX2_holds_35 : decode cX2_holds 35 = .ok (.ior, 1) := by decide +kernel
theorem dX2_holds_36 : decode cX2_holds 36 = .ok (.istore_n 2, 1) := by decide +kernel
theorem dX2_holds_37 : decode cX2_holds 37 = .ok (.iinc 3 1, 3) := by decide +kernel
theorem dX2_holds_40 : decode cX2_holds 40 = .ok (.goto (-36), 3) := by decide +kernel
theorem dX2_holds_43 : decode cX2_holds 43 = .ok (.aload_n 0, 1) := by decide +kernel
theorem dX2_holds_44 : decode cX2_holds 44 = .ok (.iload_n 2, 1) := by decide +kernel
theorem dX2_holds_45 : decode cX2_holds 45 = .ok (.invokevirtual 48, 3) := by decide +kernel
theorem dX2_holds_48 : decode cX2_holds 48 = .ok (.ireturn, 1) := by decide +kernel
set_option maxRecDepth 20000 in
theorem ggX2_holdsAt_X1_valueAt : GoodIn wsX2_holdsAt wsX1_valueAt := goodIn_r _ [7, 8, 9, 10, 11, 12, 13, 14, 15, 16, 28, 29, 30, 31, 32, 33, 34] (by decide +kernel) (by decide +kernel)
set_option maxRecDepth 20000 in
theorem gX2_holdsAt_X1_valueAt : GoodIn wsX2_holdsAt (wsV RX2 62 RX1 yX1_valueAt wsX1_valueAt) := goodIn_app (goodIn_of _ (by decide +kernel)) ggX2_holdsAt_X1_valueAt
set_option maxRecDepth 20000 in
theorem ggX2_holdsAt_X2_accepts : GoodIn wsX2_holdsAt wsX2_accepts := goodIn_r _ [21, 22, 23, 24, 25, 26, 27] (by decide +kernel) (by decide +kernel)
set_option maxRecDepth 20000 in
theorem gX2_holdsAt_X2_accepts : GoodIn wsX2_holdsAt (wsV RX2 48 RX2 yX2_accepts wsX2_accepts) := goodIn_app (goodIn_of _ (by decide +kernel)) ggX2_holdsAt_X2_accepts
theorem dX2_holdsAt_0 : decode cX2_holdsAt 0 = .ok (.iconst 0, 1) := by decide +kernel
theorem dX2_holdsAt_1 : decode cX2_holdsAt 1 = .ok (.istore 7, 2) := by decide +kernel
theorem dX2_holdsAt_3 : decode cX2_holdsAt 3 = .ok (.iconst 0, 1) := by decide +kernel
theorem dX2_holdsAt_4 : decode cX2_holdsAt 4 = .ok (.istore 8, 2) := by decide +kernel
theorem dX2_holdsAt_6 : decode cX2_holdsAt 6 = .ok (.iload 8, 2) := by decide +kernel
theorem dX2_holdsAt_8 : decode cX2_holdsAt 8 = .ok (.aload_n 0, 1) := by decide +kernel
theorem dX2_holdsAt_9 : decode cX2_holdsAt 9 = .ok (.getfield 15, 3) := by decide +kernel
theorem dX2_holdsAt_12 : decode cX2_holdsAt 12 = .ok (.if_icmp .ge 39, 3) := by decide +kernel
theorem dX2_holdsAt_15 : decode cX2_holdsAt 15 = .ok (.aload_n 1, 1) := by decide +kernel
theorem dX2_holdsAt_16 : decode cX2_holdsAt 16 = .ok (.iload_n 2, 1) := by decide +kernel
theorem dX2_holdsAt_17 : decode cX2_holdsAt 17 = .ok (.iload 8, 2) := by decide +kernel
theorem dX2_holdsAt_19 : decode cX2_holdsAt 19 = .ok (.iadd, 1) := by decide +kernel
theorem dX2_holdsAt_20 : decode cX2_holdsAt 20 = .ok (.lload_n 3, 1) := by decide +kernel
theorem dX2_holdsAt_21 : decode cX2_holdsAt 21 = .ok (.lload 5, 2) := by decide +kernel
theorem dX2_holdsAt_23 : decode cX2_holdsAt 23 = .ok (.invokevirtual 62, 3) := by decide +kernel
theorem dX2_holdsAt_26 : decode cX2_holdsAt 26 = .ok (.aload_n 0, 1) := by decide +kernel
theorem dX2_holdsAt_27 : decode cX2_holdsAt 27 = .ok (.getfield 25, 3) := by decide +kernel
theorem dX2_holdsAt_30 : decode cX2_holdsAt 30 = .ok (.iload 8, 2) := by decide +kernel
theorem dX2_holdsAt_32 : decode cX2_holdsAt 32 = .ok (.iaload, 1) := by decide +kernel
theorem dX2_holdsAt_33 : decode cX2_holdsAt 33 = .ok (.if_icmp .ne 12, 3) := by decide +kernel
theorem dX2_holdsAt_36 : decode cX2_holdsAt 36 = .ok (.iload 7, 2) := by decide +kernel
theorem dX2_holdsAt_38 : decode cX2_holdsAt 38 = .ok (.iconst 1, 1) := by decide +kernel
theorem dX2_holdsAt_39 : decode cX2_holdsAt 39 = .ok (.iload 8, 2) := by decide +kernel
theorem dX2_holdsAt_41 : decode cX2_holdsAt 41 = .ok (.ishl, 1) := by decide +kernel
theorem dX2_holdsAt_42 : decode cX2_holdsAt 42 = .ok (.ior, 1) := by decide +kernel
theorem dX2_holdsAt_43 : decode cX2_holdsAt 43 = .ok (.istore 7, 2) := by decide +kernel
theorem dX2_holdsAt_45 : decode cX2_holdsAt 45 = .ok (.iinc 8 1, 3) := by decide +kernel
theorem dX2_holdsAt_48 : decode cX2_holdsAt 48 = .ok (.goto (-42), 3) := by decide +kernel
theorem dX2_holdsAt_51 : decode cX2_holdsAt 51 = .ok (.aload_n 0, 1) := by decide +kernel
theorem dX2_holdsAt_52 : decode cX2_holdsAt 52 = .ok (.iload 7, 2) := by decide +kernel
theorem dX2_holdsAt_54 : decode cX2_holdsAt 54 = .ok (.invokevirtual 48, 3) := by decide +kernel
theorem dX2_holdsAt_57 : decode cX2_holdsAt 57 = .ok (.ireturn, 1) := by decide +kernel
theorem dX3_init_0 : decode cX3_init 0 = .ok (.aload_n 0, 1) := by decide +kernel
theorem dX3_init_1 : decode cX3_init 1 = .ok (.invokespecial 3, 3) := by decide +kernel
theorem dX3_init_4 : decode cX3_init 4 = .ok (.aload_n 0, 1) := by decide +kernel
theorem dX3_init_5 : decode cX3_init 5 = .ok (.iconst 0, 1) := by decide +kernel
theorem dX3_init_6 : decode cX3_init 6 = .ok (.putfield 9, 3) := by decide +kernel
theorem dX3_init_9 : decode cX3_init 9 = .ok (.aload_n 0, 1) := by decide +kernel
theorem dX3_init_10 : decode cX3_init 10 = .ok (.iconst 0, 1) := by decide +kernel
theorem dX3_init_11 : decode cX3_init 11 = .ok (.putfield 15, 3) := by decide +kernel
theorem dX3_init_14 : decode cX3_init 14 = .ok (.aload_n 0, 1) := by decide +kernel
theorem dX3_init_15 : decode cX3_init 15 = .ok (.sipush 1200, 3) := by decide +kernel
theorem dX3_init_18 : decode cX3_init 18 = .ok (.newarray .int, 2) := by decide +kernel
theorem dX3_init_20 : decode cX3_init 20 = .ok (.putfield 18, 3) := by decide +kernel
theorem dX3_init_23 : decode cX3_init 23 = .ok (.aload_n 0, 1) := by decide +kernel
theorem dX3_init_24 : decode cX3_init 24 = .ok (.ldc 22, 2) := by decide +kernel
theorem dX3_init_26 : decode cX3_init 26 = .ok (.newarray .int, 2) := by decide +kernel
theorem dX3_init_28 : decode cX3_init 28 = .ok (.putfield 23, 3) := by decide +kernel
theorem dX3_init_31 : decode cX3_init 31 = .ok (.aload_n 0, 1) := by decide +kernel
theorem dX3_init_32 : decode cX3_init 32 = .ok (.sipush 1024, 3) := by decide +kernel
theorem dX3_init_35 : decode cX3_init 35 = .ok (.newarray .int, 2) := by decide +kernel
theorem dX3_init_37 : decode cX3_init 37 = .ok (.putfield 26, 3) := by decide +kernel
theorem dX3_init_40 : decode cX3_init 40 = .ok (.return_, 1) := by decide +kernel
set_option maxRecDepth 20000 in
theorem ggX3_generate_X3_takeGenerators : GoodIn wsX3_generate wsX3_takeGenerators := goodIn_r _ [8, 1, 9, 3, 10, 11, 12, 13, 14, 15, 16, 17, 18, 19, 47, 48, 49, 50, 51, 52, 53, 54, 55, 56, 57, 58, 59, 60, 61, 62, 63, 64, 65, 66, 67, 68, 69, 70, 71, 72, 73, 74, 75, 76, 77] (by decide +kernel) (by decide +kernel)
set_option maxRecDepth 20000 in
theorem gX3_generate_X3_takeGenerators : GoodIn wsX3_generate (wsV RX3 34 RX3 yX3_takeGenerators wsX3_takeGenerators) := goodIn_app (goodIn_of _ (by decide +kernel)) ggX3_generate_X3_takeGenerators
set_option maxRecDepth 20000 in
theorem ggX3_generate_X3_startWithIdentity : GoodIn wsX3_generate wsX3_startWithIdentity := goodIn_r _ [23, 24, 2, 9, 25, 26, 27, 28, 29, 30, 31, 32, 7, 33, 34, 35, 36, 37, 38, 39, 40, 41, 42, 60, 61, 62, 63, 64] (by decide +kernel) (by decide +kernel)
set_option maxRecDepth 20000 in
theorem gX3_generate_X3_startWithIdentity : GoodIn wsX3_generate (wsV RX3 38 RX3 yX3_startWithIdentity wsX3_startWithIdentity) := goodIn_app (goodIn_of _ (by decide +kernel)) ggX3_generate_X3_startWithIdentity
set_option maxRecDepth 20000 in
theorem ggX3_generate_X3_follow : GoodIn wsX3_generate wsX3_follow := goodIn_r _ [46, 9, 25, 2, 10, 60, 61, 62, 63, 64] (by decide +kernel) (by decide +kernel)
set_option maxRecDepth 20000 in
theorem gX3_generate_X3_follow : GoodIn wsX3_generate (wsV RX3 46 RX3 yX3_follow wsX3_follow) := goodIn_app (goodIn_of _ (by decide +kernel)) ggX3_generate_X3_follow
set_option maxRecDepth 20000 in
theorem ggX3_generate_X3_settleLast : GoodIn wsX3_generate wsX3_settleLast := goodIn_r _ [33, 2, 24, 34, 35, 36, 7, 37, 9, 25, 38, 39, 40, 41, 42, 60, 61, 62, 63, 64] (by decide +kernel) (by decide +kernel)
set_option maxRecDepth 20000 in
theorem gX3_generate_X3_settleLast : GoodIn wsX3_generate (wsV RX3 50 RX3 yX3_settleLast wsX3_settleLast) := goodIn_app (goodIn_of _ (by decide +kernel)) ggX3_generate_X3_settleLast
theorem dX3_generate_0 : decode cX3_generate 0 = .ok (.aload_n 1, 1) := by decide +kernel
theorem dX3_generate_1 : decode cX3_generate 1 = .ok (.getfield 29, 3) := by decide +kernel
theorem dX3_generate_4 : decode cX3_generate 4 = .ok (.sipush 400, 3) := by decide +kernel
theorem dX3_generate_7 : decode cX3_generate 7 = .ok (.if_icmp .le 5, 3) := by decide +kernel
theorem dX3_generate_10 : decode cX3_generate 10 = .ok (.iconst 0, 1) := by decide +kernel
theorem dX3_generate_11 : decode cX3_generate 11 = .ok (.ireturn, 1) := by decide +kernel
theorem dX3_generate_12 : decode cX3_generate 12 = .ok (.aload_n 0, 1) := by decide +kernel
theorem dX3_generate_13 : decode cX3_generate 13 = .ok (.aload_n 1, 1) := by decide +kernel
theorem dX3_generate_14 : decode cX3_generate 14 = .ok (.aload_n 2, 1) := by decide +kernel
theorem dX3_generate_15 : decode cX3_generate 15 = .ok (.invokevirtual 34, 3) := by decide +kernel
theorem dX3_generate_18 : decode cX3_generate 18 = .ok (.aload_n 0, 1) := by decide +kernel
theorem dX3_generate_19 : decode cX3_generate 19 = .ok (.invokevirtual 38, 3) := by decide +kernel
theorem dX3_generate_22 : decode cX3_generate 22 = .ok (.iconst 0, 1) := by decide +kernel
theorem dX3_generate_23 : decode cX3_generate 23 = .ok (.istore_n 3, 1) := by decide +kernel
theorem dX3_generate_24 : decode cX3_generate 24 = .ok (.iload_n 3, 1) := by decide +kernel
theorem dX3_generate_25 : decode cX3_generate 25 = .ok (.sipush 400, 3) := by decide +kernel
theorem dX3_generate_28 : decode cX3_generate 28 = .ok (.if_icmp .ge 51, 3) := by decide +kernel
theorem dX3_generate_31 : decode cX3_generate 31 = .ok (.iload_n 3, 1) := by decide +kernel
theorem dX3_generate_32 : decode cX3_generate 32 = .ok (.aload_n 0, 1) := by decide +kernel
theorem dX3_generate_33 : decode cX3_generate 33 = .ok (.getfield 9, 3) := by decide +kernel
theorem dX3_generate_36 : decode cX3_generate 36 = .ok (.if_icmp .ge 43, 3) := by decide +kernel
theorem dX3_generate_39 : decode cX3_generate 39 = .ok (.iconst 0, 1) := by decide +kernel
theorem dX3_generate_40 : decode cX3_generate 40 = .ok (.istore 4, 2) := by decide +kernel
theorem dX3_generate_42 : decode cX3_generate 42 = .ok (.iload 4, 2) := by decide +kernel
theorem dX3_generate_44 : decode cX3_generate 44 = .ok (.aload_n 2, 1) := by decide +kernel
theorem dX3_generate_45 : decode cX3_generate 45 = .ok (.getfield 41, 3) := by decide +kernel
theorem dX3_generate_48 : decode cX3_generate 48 = .ok (.if_icmp .ge 25, 3) := by decide +kernel
theorem dX3_generate_51 : decode cX3_generate 51 = .ok (.aload_n 0, 1) := by decide +kernel
theorem dX3_generate_52 : decode cX3_generate 52 = .ok (.iload_n 3, 1) := by decide +kernel
theorem dX3_generate_53 : decode cX3_generate 53 = .ok (.iload 4, 2) := by decide +kernel
theorem dX3_generate_55 : decode cX3_generate 55 = .ok (.invokevirtual 46, 3) := by decide +kernel
theorem dX3_generate_58 : decode cX3_generate 58 = .ok (.aload_n 0, 1) := by decide +kernel
theorem dX3_generate_59 : decode cX3_generate 59 = .ok (.invokevirtual 50, 3) := by decide +kernel
theorem dX3_generate_62 : decode cX3_generate 62 = .ok (.ifCond .ne 5, 3) := by decide +kernel
theorem dX3_generate_65 : decode cX3_generate 65 = .ok (.iconst 0, 1) := by decide +kernel
theorem dX3_generate_66 : decode cX3_generate 66 = .ok (.ireturn, 1) := by decide +kernel
theorem dX3_generate_67 : decode cX3_generate 67 = .ok (.iinc 4 1, 3) := by decide +kernel
theorem dX3_generate_70 : decode cX3_generate 70 = .ok (.goto (-28), 3) := by decide +kernel
theorem dX3_generate_73 : decode cX3_generate 73 = .ok (.iinc 3 1, 3) := by decide +kernel
theorem dX3_generate_76 : decode cX3_generate 76 = .ok (.goto (-52), 3) := by decide +kernel
theorem dX3_generate_79 : decode cX3_generate 79 = .ok (.iconst 1, 1) := by decide +kernel
theorem dX3_generate_80 : decode cX3_generate 80 = .ok (.ireturn, 1) := by decide +kernel
set_option maxRecDepth 20000 in
theorem ggX3_takeGenerators_X4_nextBlock : GoodIn wsX3_takeGenerators wsX4_nextBlock := goodIn_r _ [9, 10, 11, 12, 13, 14, 15, 16, 17, 18, 19, 20, 21, 22, 23, 24, 25, 26, 32, 33, 34, 35, 36, 37, 38, 39, 40, 41, 42, 43, 44] (by decide +kernel) (by decide +kernel)
set_option maxRecDepth 20000 in
theorem gX3_takeGenerators_X4_nextBlock : GoodIn wsX3_takeGenerators (wsV RX3 54 RX4 yX4_nextBlock wsX4_nextBlock) := goodIn_app (goodIn_of _ (by decide +kernel)) ggX3_takeGenerators_X4_nextBlock
theorem dX3_takeGenerators_0 : decode cX3_takeGenerators 0 = .ok (.aload_n 0, 1) := by decide +kernel
theorem dX3_takeGenerators_1 : decode cX3_takeGenerators 1 = .ok (.aload_n 1, 1) := by decide +kernel
theorem dX3_takeGenerators_2 : decode cX3_takeGenerators 2 = .ok (.getfield 29, 3) := by decide +kernel
theorem dX3_takeGenerators_5 : decode cX3_takeGenerators 5 = .ok (.putfield 15, 3) := by decide +kernel
theorem dX3_takeGenerators_8 : decode cX3_takeGenerators 8 = .ok (.iconst 0, 1) := by decide +kernel
theorem dX3_takeGenerators_9 : decode cX3_takeGenerators 9 = .ok (.istore_n 3, 1) := by decide +kernel
theorem dX3_takeGenerators_10 : decode cX3_takeGenerators 10 = .ok (.iload_n 3, 1) := by decide +kernel
theorem dX3_takeGenerators_11 : decode cX3_takeGenerators 11 = .ok (.aload_n 2, 1) := by decide +kernel
theorem dX3_takeGenerators_12 : decode cX3_takeGenerators 12 = .ok (.getfield 41, 3) := by decide +kernel
theorem dX3_takeGenerators_15 : decode cX3_takeGenerators 15 = .ok (.if_icmp .ge 48, 3) := by decide +kernel
theorem dX3_takeGenerators_18 : decode cX3_takeGenerators 18 = .ok (.iconst 0, 1) := by decide +kernel
theorem dX3_takeGenerators_19 : decode cX3_takeGenerators 19 = .ok (.istore 4, 2) := by decide +kernel
theorem dX3_takeGenerators_21 : decode cX3_takeGenerators 21 = .ok (.iload 4, 2) := by decide +kernel
theorem dX3_takeGenerators_23 : decode cX3_takeGenerators 23 = .ok (.aload_n 0, 1) := by decide +kernel
theorem dX3_takeGenerators_24 : decode cX3_takeGenerators 24 = .ok (.getfield 15, 3) := by decide +kernel
theorem dX3_takeGenerators_27 : decode cX3_takeGenerators 27 = .ok (.if_icmp .ge 30, 3) := by decide +kernel
theorem dX3_takeGenerators_30 : decode cX3_takeGenerators 30 = .ok (.aload_n 0, 1) := by decide +kernel
theorem dX3_takeGenerators_31 : decode cX3_takeGenerators 31 = .ok (.getfield 18, 3) := by decide +kernel
theorem dX3_takeGenerators_34 : decode cX3_takeGenerators 34 = .ok (.iload_n 3, 1) := by decide +kernel
theorem dX3_takeGenerators_35 : decode cX3_takeGenerators 35 = .ok (.sipush 400, 3) := by decide +kernel
theorem dX3_takeGenerators_38 : decode cX3_takeGenerators 38 = .ok (.imul, 1) := by decide +kernel
theorem dX3_takeGenerators_39 : decode cX3_takeGenerators 39 = .ok (.iload 4, 2) := by decide +kernel
theorem dX3_takeGenerators_41 : decode cX3_takeGenerators 41 = .ok (.iadd, 1) := by decide +kernel
theorem dX3_takeGenerators_42 : decode cX3_takeGenerators 42 = .ok (.aload_n 1, 1) := by decide +kernel
theorem dX3_takeGenerators_43 : decode cX3_takeGenerators 43 = .ok (.aload_n 2, 1) := by decide +kernel
theorem dX3_takeGenerators_44 : decode cX3_takeGenerators 44 = .ok (.iload 4, 2) := by decide +kernel
theorem dX3_takeGenerators_46 : decode cX3_takeGenerators 46 = .ok (.iload_n 3, 1) := by decide +kernel
theorem dX3_takeGenerators_47 : decode cX3_takeGenerators 47 = .ok (.invokevirtual 54, 3) := by decide +kernel
theorem dX3_takeGenerators_50 : decode cX3_takeGenerators 50 = .ok (.iastore, 1) := by decide +kernel
theorem dX3_takeGenerators_51 : decode cX3_takeGenerators 51 = .ok (.iinc 4 1, 3) := by decide +kernel
theorem dX3_takeGenerators_54 : decode cX3_takeGenerators 54 = .ok (.goto (-33), 3) := by decide +kernel
theorem dX3_takeGenerators_57 : decode cX3_takeGenerators 57 = .ok (.iinc 3 1, 3) := by decide +kernel
theorem dX3_takeGenerators_60 : decode cX3_takeGenerators 60 = .ok (.goto (-50), 3) := by decide +kernel
theorem dX3_takeGenerators_63 : decode cX3_takeGenerators 63 = .ok (.return_, 1) := by decide +kernel
set_option maxRecDepth 20000 in
theorem ggX3_startWithIdentity_J7_fill_53178 : GoodIn wsX3_startWithIdentity wsJ7_fill_53178 := goodIn_r _ [8] (by decide +kernel) (by decide +kernel)
set_option maxRecDepth 20000 in
theorem gX3_startWithIdentity_J7_fill_53178 : GoodIn wsX3_startWithIdentity (va_wsS RX3 58 yJ7_fill_53178 wsJ7_fill_53178) := goodIn_app (goodIn_of _ (by decide +kernel)) ggX3_startWithIdentity_J7_fill_53178
set_option maxRecDepth 20000 in
theorem ggX3_startWithIdentity_X3_settleLast : GoodIn wsX3_startWithIdentity wsX3_settleLast := goodIn_r _ [13, 2, 1, 14, 15, 16, 12, 17, 3, 4, 18, 19, 20, 21, 22, 23, 24, 25, 26, 27] (by decide +kernel) (by decide +kernel)
set_option maxRecDepth 20000 in
theorem gX3_startWithIdentity_X3_settleLast : GoodIn wsX3_startWithIdentity (wsV RX3 50 RX3 yX3_settleLast wsX3_settleLast) := goodIn_app (goodIn_of _ (by decide +kernel)) ggX3_startWithIdentity_X3_settleLast
theorem dX3_startWithIdentity_0 : decode cX3_startWithIdentity 0 = .ok (.aload_n 0, 1) := by decide +kernel
theorem dX3_startWithIdentity_1 : decode cX3_startWithIdentity 1 = .ok (.getfield 26, 3) := by decide +kernel
theorem dX3_startWithIdentity_4 : decode cX3_startWithIdentity 4 = .ok (.iconst (-1), 1) := by decide +kernel
theorem dX3_startWithIdentity_5 : decode cX3_startWithIdentity 5 = .ok (.invokestatic 58, 3) := by decide +kernel
theorem dX3_startWithIdentity_8 : decode cX3_startWithIdentity 8 = .ok (.aload_n 0, 1) := by decide +kernel
theorem dX3_startWithIdentity_9 : decode cX3_startWithIdentity 9 = .ok (.iconst 0, 1) := by decide +kernel
theorem dX3_startWithIdentity_10 : decode cX3_startWithIdentity 10 = .ok (.putfield 9, 3) := by decide +kernel
theorem dX3_startWithIdentity_13 : decode cX3_startWithIdentity 13 = .ok (.iconst 0, 1) := by decide +kernel
theorem dX3_startWithIdentity_14 : decode cX3_startWithIdentity 14 = .ok (.istore_n 1, 1) := by decide +kernel
theorem dX3_startWithIdentity_15 : decode cX3_startWithIdentity 15 = .ok (.iload_n 1, 1) := by decide +kernel
theorem dX3_startWithIdentity_16 : decode cX3_startWithIdentity 16 = .ok (.aload_n 0, 1) := by decide +kernel
theorem dX3_startWithIdentity_17 : decode cX3_startWithIdentity 17 = .ok (.getfield 15, 3) := by decide +kernel
theorem dX3_startWithIdentity_20 : decode cX3_startWithIdentity 20 = .ok (.if_icmp .ge 16, 3) := by decide +kernel
theorem dX3_startWithIdentity_23 : decode cX3_startWithIdentity 23 = .ok (.aload_n 0, 1) := by decide +kernel
theorem dX3_startWithIdentity_24 : decode cX3_startWithIdentity 24 = .ok (.getfield 23, 3) := by decide +kernel
theorem dX3_startWithIdentity_27 : decode cX3_startWithIdentity 27 = .ok (.iload_n 1, 1) := by decide +kernel
theorem dX3_startWithIdentity_28 : decode cX3_startWithIdentity 28 = .ok (.iload_n 1, 1) := by decide +kernel
theorem dX3_startWithIdentity_29 : decode cX3_startWithIdentity 29 = .ok (.iastore, 1) := by decide +kernel
theorem dX3_startWithIdentity_30 : decode cX3_startWithIdentity 30 = .ok (.iinc 1 1, 3) := by decide +kernel
theorem dX3_startWithIdentity_33 : decode cX3_startWithIdentity 33 = .ok (.goto (-18), 3) := by decide +kernel
theorem dX3_startWithIdentity_36 : decode cX3_startWithIdentity 36 = .ok (.aload_n 0, 1) := by decide +kernel
theorem dX3_startWithIdentity_37 : decode cX3_startWithIdentity 37 = .ok (.invokevirtual 50, 3) := by decide +kernel
theorem dX3_startWithIdentity_40 : decode cX3_startWithIdentity 40 = .ok (.pop, 1) := by decide +kernel
theorem dX3_startWithIdentity_41 : decode cX3_startWithIdentity 41 = .ok (.return_, 1) := by decide +kernel
theorem dX3_follow_0 : decode cX3_follow 0 = .ok (.iconst 0, 1) := by decide +kernel
theorem dX3_follow_1 : decode cX3_follow 1 = .ok (.istore_n 3, 1) := by decide +kernel
theorem dX3_follow_2 : decode cX3_follow 2 = .ok (.iload_n 3, 1) := by decide +kernel
theorem dX3_follow_3 : decode cX3_follow 3 = .ok (.aload_n 0, 1) := by decide +kernel
theorem dX3_follow_4 : decode cX3_follow 4 = .ok (.getfield 15, 3) := by decide +kernel
theorem dX3_follow_7 : decode cX3_follow 7 = .ok (.if_icmp .ge 49, 3) := by decide +kernel
theorem dX3_follow_10 : decode cX3_follow 10 = .ok (.aload_n 0, 1) := by decide +kernel
theorem dX3_follow_11 : decode cX3_follow 11 = .ok (.getfield 23, 3) := by decide +kernel
theorem dX3_follow_14 : decode cX3_follow 14 = .ok (.aload_n 0, 1) := by decide +kernel
theorem dX3_follow_15 : decode cX3_follow 15 = .ok (.getfield 9, 3) := by decide +kernel
theorem dX3_follow_18 : decode cX3_follow 18 = .ok (.aload_n 0, 1) := by decide +kernel
theorem dX3_follow_19 : decode cX3_follow 19 = .ok (.getfield 15, 3) := by decide +kernel
theorem dX3_follow_22 : decode cX3_follow 22 = .ok (.imul, 1) := by decide +kernel
theorem dX3_follow_23 : decode cX3_follow 23 = .ok (.iload_n 3, 1) := by decide +kernel
theorem dX3_follow_24 : decode cX3_follow 24 = .ok (.iadd, 1) := by decide +kernel
theorem dX3_follow_25 : decode cX3_follow 25 = .ok (.aload_n 0, 1) := by decide +kernel
theorem dX3_follow_26 : decode cX3_follow 26 = .ok (.getfield 18, 3) := by decide +kernel
theorem dX3_follow_29 : decode cX3_follow 29 = .ok (.iload_n 2, 1) := by decide +kernel
theorem dX3_follow_30 : decode cX3_follow 30 = .ok (.sipush 400, 3) := by decide +kernel
theorem dX3_follow_33 : decode cX3_follow 33 = .ok (.imul, 1) := by decide +kernel
theorem dX3_follow_34 : decode cX3_follow 34 = .ok (.aload_n 0, 1) := by decide +kernel
theorem dX3_follow_35 : decode cX3_follow 35 = .ok (.getfield 23, 3) := by decide +kernel
theorem dX3_follow_38 : decode cX3_follow 38 = .ok (.iload_n 1, 1) := by decide +kernel
theorem dX3_follow_39 : decode cX3_follow 39 = .ok (.aload_n 0, 1) := by decide +kernel
theorem dX3_follow_40 : decode cX3_follow 40 = .ok (.getfield 15, 3) := by decide +kernel
theorem dX3_follow_43 : decode cX3_follow 43 = .ok (.imul, 1) := by decide +kernel
theorem dX3_follow_44 : decode cX3_follow 44 = .ok (.iload_n 3, 1) := by decide +kernel
theorem dX3_follow_45 : decode cX3_follow 45 = .ok (.iadd, 1) := by decide +kernel
theorem dX3_follow_46 : decode cX3_follow 46 = .ok (.iaload, 1) := by decide +kernel
theorem dX3_follow_47 : decode cX3_follow 47 = .ok (.iadd, 1) := by decide +kernel
theorem dX3_follow_48 : decode cX3_follow 48 = .ok (.iaload, 1) := by decide +kernel
theorem dX3_follow_49 : decode cX3_follow 49 = .ok (.iastore, 1) := by decide +kernel
theorem dX3_follow_50 : decode cX3_follow 50 = .ok (.iinc 3 1, 3) := by decide +kernel
theorem dX3_follow_53 : decode cX3_follow 53 = .ok (.goto (-51), 3) := by decide +kernel
theorem dX3_follow_56 : decode cX3_follow 56 = .ok (.return_, 1) := by decide +kernel
set_option maxRecDepth 20000 in
theorem ggX3_settleLast_X3_hashOf : GoodIn wsX3_settleLast wsX3_hashOf := goodIn_r _ [7, 8, 9, 10, 15, 16, 17, 18, 19] (by decide +kernel) (by decide +kernel)
set_option maxRecDepth 20000 in
theorem gX3_settleLast_X3_hashOf : GoodIn wsX3_settleLast (wsV RX3 64 RX3 yX3_hashOf wsX3_hashOf) := goodIn_app (goodIn_of _ (by decide +kernel)) ggX3_settleLast_X3_hashOf
set_option maxRecDepth 20000 in
theorem ggX3_settleLast_X3_areSame : GoodIn wsX3_settleLast wsX3_areSame := goodIn_r _ [14, 8, 9, 15, 16, 17, 18, 19] (by decide +kernel) (by decide +kernel)
set_option maxRecDepth 20000 in
theorem gX3_settleLast_X3_areSame : GoodIn wsX3_settleLast (wsV RX3 68 RX3 yX3_areSame wsX3_areSame) := goodIn_app (goodIn_of _ (by decide +kernel)) ggX3_settleLast_X3_areSame
theorem dX3_settleLast_0 : decode cX3_settleLast 0 = .ok (.aload_n 0, 1) := by decide +kernel
theorem dX3_settleLast_1 : decode cX3_settleLast 1 = .ok (.aload_n 0, 1) := by decide +kernel
theorem dX3_settleLast_2 : decode cX3_settleLast 2 = .ok (.getfield 9, 3) := by decide +kernel
theorem dX3_settleLast_5 : decode cX3_settleLast 5 = .ok (.invokevirtual 64, 3) := by decide +kernel
theorem dX3_settleLast_8 : decode cX3_settleLast 8 = .ok (.istore_n 1, 1) := by decide +kernel
theorem dX3_settleLast_9 : decode cX3_settleLast 9 = .ok (.iconst 0, 1) := by decide +kernel
theorem dX3_settleLast_10 : decode cX3_settleLast 10 = .ok (.istore_n 2, 1) := by decide +kernel
theorem dX3_settleLast_11 : decode cX3_settleLast 11 = .ok (.iload_n 2, 1) := by decide +kernel
theorem dX3_settleLast_12 : decode cX3_settleLast 12 = .ok (.sipush 1024, 3) := by decide +kernel
theorem dX3_settleLast_15 : decode cX3_settleLast 15 = .ok (.if_icmp .ge 79, 3) := by decide +kernel
theorem dX3_settleLast_18 : decode cX3_settleLast 18 = .ok (.iload_n 1, 1) := by decide +kernel
theorem dX3_settleLast_19 : decode cX3_settleLast 19 = .ok (.iload_n 2, 1) := by decide +kernel
theorem dX3_settleLast_20 : decode cX3_settleLast 20 = .ok (.iadd, 1) := by decide +kernel
theorem dX3_settleLast_21 : decode cX3_settleLast 21 = .ok (.sipush 1023, 3) := by decide +kernel
theorem dX3_settleLast_24 : decode cX3_settleLast 24 = .ok (.iand, 1) := by decide +kernel
theorem dX3_settleLast_25 : decode cX3_settleLast 25 = .ok (.istore_n 3, 1) := by decide +kernel
theorem dX3_settleLast_26 : decode cX3_settleLast 26 = .ok (.aload_n 0, 1) := by decide +kernel
theorem dX3_settleLast_27 : decode cX3_settleLast 27 = .ok (.getfield 26, 3) := by decide +kernel
theorem dX3_settleLast_30 : decode cX3_settleLast 30 = .ok (.iload_n 3, 1) := by decide +kernel
theorem dX3_settleLast_31 : decode cX3_settleLast 31 = .ok (.iaload, 1) := by decide +kernel
theorem dX3_settleLast_32 : decode cX3_settleLast 32 = .ok (.ifCond .ge 37, 3) := by decide +kernel
theorem dX3_settleLast_35 : decode cX3_settleLast 35 = .ok (.aload_n 0, 1) := by decide +kernel
theorem dX3_settleLast_36 : decode cX3_settleLast 36 = .ok (.getfield 9, 3) := by decide +kernel
theorem dX3_settleLast_39 : decode cX3_settleLast 39 = .ok (.sipush 400, 3) := by decide +kernel
theorem dX3_settleLast_42 : decode cX3_settleLast 42 = .ok (.if_icmp .lt 5, 3) := by decide +kernel
theorem dX3_settleLast_45 : decode cX3_settleLast 45 = .ok (.iconst 0, 1) := by decide +kernel
theorem dX3_settleLast_46 : decode cX3_settleLast 46 = .ok (.ireturn, 1) := by decide +kernel
theorem dX3_settleLast_47 : decode cX3_settleLast 47 = .ok (.aload_n 0, 1) := by decide +kernel
theorem dX3_settleLast_48 : decode cX3_settleLast 48 = .ok (.getfield 26, 3) := by decide +kernel
theorem dX3_settleLast_51 : decode cX3_settleLast 51 = .ok (.iload_n 3, 1) := by decide +kernel
theorem dX3_settleLast_52 : decode cX3_settleLast 52 = .ok (.aload_n 0, 1) := by decide +kernel
theorem dX3_settleLast_53 : decode cX3_settleLast 53 = .ok (.getfield 9, 3) := by decide +kernel
theorem dX3_settleLast_56 : decode cX3_settleLast 56 = .ok (.iastore, 1) := by decide +kernel
theorem dX3_settleLast_57 : decode cX3_settleLast 57 = .ok (.aload_n 0, 1) := by decide +kernel
theorem dX3_settleLast_58 : decode cX3_settleLast 58 = .ok (.dup, 1) := by decide +kernel
theorem dX3_settleLast_59 : decode cX3_settleLast 59 = .ok (.getfield 9, 3) := by decide +kernel
theorem dX3_settleLast_62 : decode cX3_settleLast 62 = .ok (.iconst 1, 1) := by decide +kernel
theorem dX3_settleLast_63 : decode cX3_settleLast 63 = .ok (.iadd, 1) := by decide +kernel
theorem dX3_settleLast_64 : decode cX3_settleLast 64 = .ok (.putfield 9, 3) := by decide +kernel
theorem dX3_settleLast_67 : decode cX3_settleLast 67 = .ok (.iconst 1, 1) := by decide +kernel
theorem dX3_settleLast_68 : decode cX3_settleLast 68 = .ok (.ireturn, 1) := by decide +kernel
theorem dX3_settleLast_69 : decode cX3_settleLast 69 = .ok (.aload_n 0, 1) := by decide +kernel
theorem dX3_settleLast_70 : decode cX3_settleLast 70 = .ok (.aload_n 0, 1) := by decide +kernel
theorem dX3_settleLast_71 : decode cX3_settleLast 71 = .ok (.getfield 26, 3) := by decide +kernel
theorem dX3_settleLast_74 : decode cX3_settleLast 74 = .ok (.iload_n 3, 1) := by decide +kernel
theorem dX3_settleLast_75 : decode cX3_settleLast 75 = .ok (.iaload, 1) := by decide +kernel
theorem dX3_settleLast_76 : decode cX3_settleLast 76 = .ok (.aload_n 0, 1) := by decide +kernel
theorem dX3_settleLast_77 : decode cX3_settleLast 77 = .ok (.getfield 9, 3) := by decide +kernel
theorem dX3_settleLast_80 : decode cX3_settleLast 80 = .ok (.invokevirtual 68, 3) := by decide +kernel
theorem dX3_settleLast_83 : decode cX3_settleLast 83 = .ok (.ifCond .eq 5, 3) := by decide +kernel
theorem dX3_settleLast_86 : decode cX3_settleLast 86 = .ok (.iconst 1, 1) := by decide +kernel
theorem dX3_settleLast_87 : decode cX3_settleLast 87 = .ok (.ireturn, 1) := by decide +kernel
theorem dX3_settleLast_88 : decode cX3_settleLast 88 = .ok (.iinc 2 1, 3) := by decide +kernel
theorem dX3_settleLast_91 : decode cX3_settleLast 91 = .ok (.goto (-80), 3) := by decide +kernel
theorem dX3_settleLast_94 : decode cX3_settleLast 94 = .ok (.iconst 0, 1) := by decide +kernel
theorem dX3_settleLast_95 : decode cX3_settleLast 95 = .ok (.ireturn, 1) := by decide +kernel
theorem dX3_hashOf_0 : decode cX3_hashOf 0 = .ok (.iconst 0, 1) := by decide +kernel
theorem dX3_hashOf_1 : decode cX3_hashOf 1 = .ok (.istore_n 2, 1) := by decide +kernel
theorem dX3_hashOf_2 : decode cX3_hashOf 2 = .ok (.iconst 0, 1) := by decide +kernel
theorem dX3_hashOf_3 : decode cX3_hashOf 3 = .ok (.istore_n 3, 1) := by decide +kernel
theorem dX3_hashOf_4 : decode cX3_hashOf 4 = .ok (.iload_n 3, 1) := by decide +kernel
theorem dX3_hashOf_5 : decode cX3_hashOf 5 = .ok (.aload_n 0, 1) := by decide +kernel
theorem dX3_hashOf_6 : decode cX3_hashOf 6 = .ok (.getfield 15, 3) := by decide +kernel
theorem dX3_hashOf_9 : decode cX3_hashOf 9 = .ok (.if_icmp .ge 28, 3) := by decide +kernel
theorem dX3_hashOf_12 : decode cX3_hashOf 12 = .ok (.iload_n 2, 1) := by decide +kernel
theorem dX3_hashOf_13 : decode cX3_hashOf 13 = .ok (.bipush 31, 2) := by decide +kernel
theorem dX3_hashOf_15 : decode cX3_hashOf 15 = .ok (.imul, 1) := by decide +kernel
theorem dX3_hashOf_16 : decode cX3_hashOf 16 = .ok (.aload_n 0, 1) := by decide +kernel
theorem dX3_hashOf_17 : decode cX3_hashOf 17 = .ok (.getfield 23, 3) := by decide +kernel
theorem dX3_hashOf_20 : decode cX3_hashOf 20 = .ok (.iload_n 1, 1) := by decide +kernel
theorem dX3_hashOf_21 : decode cX3_hashOf 21 = .ok (.aload_n 0, 1) := by decide +kernel
theorem dX3_hashOf_22 : decode cX3_hashOf 22 = .ok (.getfield 15, 3) := by decide +kernel
theorem dX3_hashOf_25 : decode cX3_hashOf 25 = .ok (.imul, 1) := by decide +kernel
theorem dX3_hashOf_26 : decode cX3_hashOf 26 = .ok (.iload_n 3, 1) := by decide +kernel
theorem dX3_hashOf_27 : decode cX3_hashOf 27 = .ok (.iadd, 1) := by decide +kernel
theorem dX3_hashOf_28 : decode cX3_hashOf 28 = .ok (.iaload, 1) := by decide +kernel
theorem dX3_hashOf_29 : decode cX3_hashOf 29 = .ok (.iadd, 1) := by decide +kernel
theorem dX3_hashOf_30 : decode cX3_hashOf 30 = .ok (.istore_n 2, 1) := by decide +kernel
theorem dX3_hashOf_31 : decode cX3_hashOf 31 = .ok (.iinc 3 1, 3) := by decide +kernel
theorem dX3_hashOf_34 : decode cX3_hashOf 34 = .ok (.goto (-30), 3) := by decide +kernel
theorem dX3_hashOf_37 : decode cX3_hashOf 37 = .ok (.iload_n 2, 1) := by decide +kernel
theorem dX3_hashOf_38 : decode cX3_hashOf 38 = .ok (.ldc 72, 2) := by decide +kernel
theorem dX3_hashOf_40 : decode cX3_hashOf 40 = .ok (.imul, 1) := by decide +kernel
theorem dX3_hashOf_41 : decode cX3_hashOf 41 = .ok (.bipush 22, 2) := by decide +kernel
theorem dX3_hashOf_43 : decode cX3_hashOf 43 = .ok (.iushr, 1) := by decide +kernel
theorem dX3_hashOf_44 : decode cX3_hashOf 44 = .ok (.ireturn, 1) := by decide +kernel
theorem dX3_areSame_0 : decode cX3_areSame 0 = .ok (.iconst 0, 1) := by decide +kernel
theorem dX3_areSame_1 : decode cX3_areSame 1 = .ok (.istore_n 3, 1) := by decide +kernel
theorem dX3_areSame_2 : decode cX3_areSame 2 = .ok (.iload_n 3, 1) := by decide +kernel
theorem dX3_areSame_3 : decode cX3_areSame 3 = .ok (.aload_n 0, 1) := by decide +kernel
theorem dX3_areSame_4 : decode cX3_areSame 4 = .ok (.getfield 15, 3) := by decide +kernel
theorem dX3_areSame_7 : decode cX3_areSame 7 = .ok (.if_icmp .ge 40, 3) := by decide +kernel
theorem dX3_areSame_10 : decode cX3_areSame 10 = .ok (.aload_n 0, 1) := by decide +kernel
theorem dX3_areSame_11 : decode cX3_areSame 11 = .ok (.getfield 23, 3) := by decide +kernel
theorem dX3_areSame_14 : decode cX3_areSame 14 = .ok (.iload_n 1, 1) := by decide +kernel
theorem dX3_areSame_15 : decode cX3_areSame 15 = .ok (.aload_n 0, 1) := by decide +kernel
theorem dX3_areSame_16 : decode cX3_areSame 16 = .ok (.getfield 15, 3) := by decide +kernel
theorem dX3_areSame_19 : decode cX3_areSame 19 = .ok (.imul, 1) := by decide +kernel
theorem dX3_areSame_20 : decode cX3_areSame 20 = .ok (.iload_n 3, 1) := by decide +kernel
theorem dX3_areSame_21 : decode cX3_areSame 21 = .ok (.iadd, 1) := by decide +kernel
theorem dX3_areSame_22 : decode cX3_areSame 22 = .ok (.iaload, 1) := by decide +kernel
theorem dX3_areSame_23 : decode cX3_areSame 23 = .ok (.aload_n 0, 1) := by decide +kernel
theorem dX3_areSame_24 : decode cX3_areSame 24 = .ok (.getfield 23, 3) := by decide +kernel
theorem dX3_areSame_27 : decode cX3_areSame 27 = .ok (.iload_n 2, 1) := by decide +kernel
theorem dX3_areSame_28 : decode cX3_areSame 28 = .ok (.aload_n 0, 1) := by decide +kernel
theorem dX3_areSame_29 : decode cX3_areSame 29 = .ok (.getfield 15, 3) := by decide +kernel
theorem dX3_areSame_32 : decode cX3_areSame 32 = .ok (.imul, 1) := by decide +kernel
theorem dX3_areSame_33 : decode cX3_areSame 33 = .ok (.iload_n 3, 1) := by decide +kernel
theorem dX3_areSame_34 : decode cX3_areSame 34 = .ok (.iadd, 1) := by decide +kernel
theorem dX3_areSame_35 : decode cX3_areSame 35 = .ok (.iaload, 1) := by decide +kernel
theorem dX3_areSame_36 : decode cX3_areSame 36 = .ok (.if_icmp .eq 5, 3) := by decide +kernel
theorem dX3_areSame_39 : decode cX3_areSame 39 = .ok (.iconst 0, 1) := by decide +kernel
theorem dX3_areSame_40 : decode cX3_areSame 40 = .ok (.ireturn, 1) := by decide +kernel
theorem dX3_areSame_41 : decode cX3_areSame 41 = .ok (.iinc 3 1, 3) := by decide +kernel
theorem dX3_areSame_44 : decode cX3_areSame 44 = .ok (.goto (-42), 3) := by decide +kernel
theorem dX3_areSame_47 : decode cX3_areSame 47 = .ok (.iconst 1, 1) := by decide +kernel
theorem dX3_areSame_48 : decode cX3_areSame 48 = .ok (.ireturn, 1) := by decide +kernel
theorem dX4_init_0 : decode cX4_init 0 = .ok (.aload_n 0, 1) := by decide +kernel
theorem dX4_init_1 : decode cX4_init 1 = .ok (.invokespecial 3, 3) := by decide +kernel
theorem dX4_init_4 : decode cX4_init 4 = .ok (.aload_n 0, 1) := by decide +kernel
theorem dX4_init_5 : decode cX4_init 5 = .ok (.iconst 0, 1) := by decide +kernel
theorem dX4_init_6 : decode cX4_init 6 = .ok (.putfield 9, 3) := by decide +kernel
theorem dX4_init_9 : decode cX4_init 9 = .ok (.aload_n 0, 1) := by decide +kernel
theorem dX4_init_10 : decode cX4_init 10 = .ok (.sipush 2000, 3) := by decide +kernel
theorem dX4_init_13 : decode cX4_init 13 = .ok (.newarray .int, 2) := by decide +kernel
theorem dX4_init_15 : decode cX4_init 15 = .ok (.putfield 17, 3) := by decide +kernel
theorem dX4_init_18 : decode cX4_init 18 = .ok (.aload_n 0, 1) := by decide +kernel
theorem dX4_init_19 : decode cX4_init 19 = .ok (.sipush 2000, 3) := by decide +kernel
theorem dX4_init_22 : decode cX4_init 22 = .ok (.newarray .int, 2) := by decide +kernel
theorem dX4_init_24 : decode cX4_init 24 = .ok (.putfield 21, 3) := by decide +kernel
theorem dX4_init_27 : decode cX4_init 27 = .ok (.aload_n 0, 1) := by decide +kernel
theorem dX4_init_28 : decode cX4_init 28 = .ok (.sipush 2000, 3) := by decide +kernel
theorem dX4_init_31 : decode cX4_init 31 = .ok (.newarray .int, 2) := by decide +kernel
theorem dX4_init_33 : decode cX4_init 33 = .ok (.putfield 24, 3) := by decide +kernel
theorem dX4_init_36 : decode cX4_init 36 = .ok (.aload_n 0, 1) := by decide +kernel
theorem dX4_init_37 : decode cX4_init 37 = .ok (.sipush 2000, 3) := by decide +kernel
theorem dX4_init_40 : decode cX4_init 40 = .ok (.newarray .int, 2) := by decide +kernel
theorem dX4_init_42 : decode cX4_init 42 = .ok (.putfield 27, 3) := by decide +kernel
theorem dX4_init_45 : decode cX4_init 45 = .ok (.aload_n 0, 1) := by decide +kernel
theorem dX4_init_46 : decode cX4_init 46 = .ok (.sipush 2000, 3) := by decide +kernel
theorem dX4_init_49 : decode cX4_init 49 = .ok (.newarray .int, 2) := by decide +kernel
theorem dX4_init_51 : decode cX4_init 51 = .ok (.putfield 30, 3) := by decide +kernel
theorem dX4_init_54 : decode cX4_init 54 = .ok (.aload_n 0, 1) := by decide +kernel
theorem dX4_init_55 : decode cX4_init 55 = .ok (.sipush 2000, 3) := by decide +kernel
theorem dX4_init_58 : decode cX4_init 58 = .ok (.newarray .int, 2) := by decide +kernel
theorem dX4_init_60 : decode cX4_init 60 = .ok (.putfield 33, 3) := by decide +kernel
theorem dX4_init_63 : decode cX4_init 63 = .ok (.aload_n 0, 1) := by decide +kernel
theorem dX4_init_64 : decode cX4_init 64 = .ok (.sipush 2000, 3) := by decide +kernel
theorem dX4_init_67 : decode cX4_init 67 = .ok (.newarray .int, 2) := by decide +kernel
theorem dX4_init_69 : decode cX4_init 69 = .ok (.putfield 36, 3) := by decide +kernel
theorem dX4_init_72 : decode cX4_init 72 = .ok (.aload_n 0, 1) := by decide +kernel
theorem dX4_init_73 : decode cX4_init 73 = .ok (.iconst 0, 1) := by decide +kernel
theorem dX4_init_74 : decode cX4_init 74 = .ok (.putfield 39, 3) := by decide +kernel
theorem dX4_init_77 : decode cX4_init 77 = .ok (.aload_n 0, 1) := by decide +kernel
theorem dX4_init_78 : decode cX4_init 78 = .ok (.sipush 2000, 3) := by decide +kernel
theorem dX4_init_81 : decode cX4_init 81 = .ok (.newarray .int, 2) := by decide +kernel
theorem dX4_init_83 : decode cX4_init 83 = .ok (.putfield 42, 3) := by decide +kernel
theorem dX4_init_86 : decode cX4_init 86 = .ok (.aload_n 0, 1) := by decide +kernel
theorem dX4_init_87 : decode cX4_init 87 = .ok (.sipush 2000, 3) := by decide +kernel
theorem dX4_init_90 : decode cX4_init 90 = .ok (.newarray .int, 2) := by decide +kernel
theorem dX4_init_92 : decode cX4_init 92 = .ok (.putfield 45, 3) := by decide +kernel
theorem dX4_init_95 : decode cX4_init 95 = .ok (.aload_n 0, 1) := by decide +kernel
theorem dX4_init_96 : decode cX4_init 96 = .ok (.sipush 6003, 3) := by decide +kernel
theorem dX4_init_99 : decode cX4_init 99 = .ok (.newarray .int, 2) := by decide +kernel
theorem dX4_init_101 : decode cX4_init 101 = .ok (.putfield 48, 3) := by decide +kernel
theorem dX4_init_104 : decode cX4_init 104 = .ok (.aload_n 0, 1) := by decide +kernel
theorem dX4_init_105 : decode cX4_init 105 = .ok (.sipush 6000, 3) := by decide +kernel
theorem dX4_init_108 : decode cX4_init 108 = .ok (.newarray .int, 2) := by decide +kernel
theorem dX4_init_110 : decode cX4_init 110 = .ok (.putfield 51, 3) := by decide +kernel
theorem dX4_init_113 : decode cX4_init 113 = .ok (.return_, 1) := by decide +kernel
set_option maxRecDepth 20000 in
theorem ggX4_refine_X4_groupByMark : GoodIn wsX4_refine wsX4_groupByMark := goodIn_r _ [15, 1, 16, 17, 3, 18, 19, 20, 21, 22, 14, 23, 4, 2, 24, 50, 51, 52, 53, 54, 55, 56, 57, 58, 59, 60, 61, 62, 63, 64, 65, 66, 67, 68, 69, 70, 71, 72, 73, 74, 75] (by decide +kernel) (by decide +kernel)
set_option maxRecDepth 20000 in
theorem gX4_refine_X4_groupByMark : GoodIn wsX4_refine (wsV RX4 54 RX4 yX4_groupByMark wsX4_groupByMark) := goodIn_app (goodIn_of _ (by decide +kernel)) ggX4_refine_X4_groupByMark
set_option maxRecDepth 20000 in
theorem ggX4_refine_X4_gatherSources : GoodIn wsX4_refine wsX4_gatherSources := goodIn_r _ [28, 10, 16, 29, 30, 31, 63, 64, 65, 66, 67, 68, 69, 70, 71, 72, 73, 74, 75, 50, 51, 52, 53, 54, 55, 56, 57, 58, 59, 60, 61, 62] (by decide +kernel) (by decide +kernel)
set_option maxRecDepth 20000 in
theorem gX4_refine_X4_gatherSources : GoodIn wsX4_refine (wsV RX4 58 RX4 yX4_gatherSources wsX4_gatherSources) := goodIn_app (goodIn_of _ (by decide +kernel)) ggX4_refine_X4_gatherSources
set_option maxRecDepth 20000 in
theorem ggX4_refine_X4_markSources : GoodIn wsX4_refine wsX4_markSources := goodIn_r _ [35, 29, 31, 36, 37, 38, 14, 39, 19, 4, 24, 18, 3, 40, 41, 50, 51, 52, 53, 54, 55, 56, 57, 58, 59, 60, 61, 62] (by decide +kernel) (by decide +kernel)
set_option maxRecDepth 20000 in
theorem gX4_refine_X4_markSources : GoodIn wsX4_refine (wsV RX4 70 RX4 yX4_markSources wsX4_markSources) := goodIn_app (goodIn_of _ (by decide +kernel)) ggX4_refine_X4_markSources
set_option maxRecDepth 20000 in
theorem ggX4_refine_X4_splitTouched : GoodIn wsX4_refine wsX4_splitTouched := goodIn_r _ [45, 41, 40, 46, 47, 48, 14, 49, 24, 2, 1, 4, 19, 3, 20, 21, 22, 23, 50, 51, 52, 53, 54, 55, 56, 57, 58, 59, 60, 61, 62] (by decide +kernel) (by decide +kernel)
set_option maxRecDepth 20000 in
theorem gX4_refine_X4_splitTouched : GoodIn wsX4_refine (wsV RX4 74 RX4 yX4_splitTouched wsX4_splitTouched) := goodIn_app (goodIn_of _ (by decide +kernel)) ggX4_refine_X4_splitTouched
theorem dX4_refine_0 : decode cX4_refine 0 = .ok (.aload_n 0, 1) := by decide +kernel
theorem dX4_refine_1 : decode cX4_refine 1 = .ok (.aload_n 1, 1) := by decide +kernel
theorem dX4_refine_2 : decode cX4_refine 2 = .ok (.invokevirtual 54, 3) := by decide +kernel
theorem dX4_refine_5 : decode cX4_refine 5 = .ok (.aload_n 0, 1) := by decide +kernel
theorem dX4_refine_6 : decode cX4_refine 6 = .ok (.aload_n 1, 1) := by decide +kernel
theorem dX4_refine_7 : decode cX4_refine 7 = .ok (.invokevirtual 58, 3) := by decide +kernel
theorem dX4_refine_10 : decode cX4_refine 10 = .ok (.iconst 0, 1) := by decide +kernel
theorem dX4_refine_11 : decode cX4_refine 11 = .ok (.istore_n 2, 1) := by decide +kernel
theorem dX4_refine_12 : decode cX4_refine 12 = .ok (.iload_n 2, 1) := by decide +kernel
theorem dX4_refine_13 : decode cX4_refine 13 = .ok (.sipush 2000, 3) := by decide +kernel
theorem dX4_refine_16 : decode cX4_refine 16 = .ok (.if_icmp .ge 93, 3) := by decide +kernel
theorem dX4_refine_19 : decode cX4_refine 19 = .ok (.iload_n 2, 1) := by decide +kernel
theorem dX4_refine_20 : decode cX4_refine 20 = .ok (.aload_n 0, 1) := by decide +kernel
theorem dX4_refine_21 : decode cX4_refine 21 = .ok (.getfield 9, 3) := by decide +kernel
theorem dX4_refine_24 : decode cX4_refine 24 = .ok (.if_icmp .ge 85, 3) := by decide +kernel
theorem dX4_refine_27 : decode cX4_refine 27 = .ok (.aload_n 0, 1) := by decide +kernel
theorem dX4_refine_28 : decode cX4_refine 28 = .ok (.getfield 30, 3) := by decide +kernel
theorem dX4_refine_31 : decode cX4_refine 31 = .ok (.iload_n 2, 1) := by decide +kernel
theorem dX4_refine_32 : decode cX4_refine 32 = .ok (.iaload, 1) := by decide +kernel
theorem dX4_refine_33 : decode cX4_refine 33 = .ok (.istore_n 3, 1) := by decide +kernel
theorem dX4_refine_34 : decode cX4_refine 34 = .ok (.aload_n 0, 1) := by decide +kernel
theorem dX4_refine_35 : decode cX4_refine 35 = .ok (.getfield 17, 3) := by decide +kernel
theorem dX4_refine_38 : decode cX4_refine 38 = .ok (.aload_n 0, 1) := by decide +kernel
theorem dX4_refine_39 : decode cX4_refine 39 = .ok (.getfield 27, 3) := by decide +kernel
theorem dX4_refine_42 : decode cX4_refine 42 = .ok (.iload_n 2, 1) := by decide +kernel
theorem dX4_refine_43 : decode cX4_refine 43 = .ok (.iaload, 1) := by decide +kernel
theorem dX4_refine_44 : decode cX4_refine 44 = .ok (.aload_n 0, 1) := by decide +kernel
theorem dX4_refine_45 : decode cX4_refine 45 = .ok (.getfield 42, 3) := by decide +kernel
theorem dX4_refine_48 : decode cX4_refine 48 = .ok (.iconst 0, 1) := by decide +kernel
theorem dX4_refine_49 : decode cX4_refine 49 = .ok (.iload_n 3, 1) := by decide +kernel
theorem dX4_refine_50 : decode cX4_refine 50 = .ok (.invokestatic 61, 3) := by decide +kernel
theorem dX4_refine_53 : decode cX4_refine 53 = .ok (.iconst 0, 1) := by decide +kernel
theorem dX4_refine_54 : decode cX4_refine 54 = .ok (.istore 4, 2) := by decide +kernel
theorem dX4_refine_56 : decode cX4_refine 56 = .ok (.iload 4, 2) := by decide +kernel
theorem dX4_refine_58 : decode cX4_refine 58 = .ok (.aload_n 1, 1) := by decide +kernel
theorem dX4_refine_59 : decode cX4_refine 59 = .ok (.getfield 67, 3) := by decide +kernel
theorem dX4_refine_62 : decode cX4_refine 62 = .ok (.if_icmp .ge 41, 3) := by decide +kernel
theorem dX4_refine_65 : decode cX4_refine 65 = .ok (.iconst 0, 1) := by decide +kernel
theorem dX4_refine_66 : decode cX4_refine 66 = .ok (.istore 5, 2) := by decide +kernel
theorem dX4_refine_68 : decode cX4_refine 68 = .ok (.iload 5, 2) := by decide +kernel
theorem dX4_refine_70 : decode cX4_refine 70 = .ok (.iload_n 3, 1) := by decide +kernel
theorem dX4_refine_71 : decode cX4_refine 71 = .ok (.if_icmp .ge 22, 3) := by decide +kernel
theorem dX4_refine_74 : decode cX4_refine 74 = .ok (.aload_n 0, 1) := by decide +kernel
theorem dX4_refine_75 : decode cX4_refine 75 = .ok (.iload 4, 2) := by decide +kernel
theorem dX4_refine_77 : decode cX4_refine 77 = .ok (.aload_n 0, 1) := by decide +kernel
theorem dX4_refine_78 : decode cX4_refine 78 = .ok (.getfield 42, 3) := by decide +kernel
theorem dX4_refine_81 : decode cX4_refine 81 = .ok (.iload 5, 2) := by decide +kernel
theorem dX4_refine_83 : decode cX4_refine 83 = .ok (.iaload, 1) := by decide +kernel
theorem dX4_refine_84 : decode cX4_refine 84 = .ok (.invokevirtual 70, 3) := by decide +kernel
theorem dX4_refine_87 : decode cX4_refine 87 = .ok (.iinc 5 1, 3) := by decide +kernel
theorem dX4_refine_90 : decode cX4_refine 90 = .ok (.goto (-22), 3) := by decide +kernel
theorem dX4_refine_93 : decode cX4_refine 93 = .ok (.aload_n 0, 1) := by decide +kernel
theorem dX4_refine_94 : decode cX4_refine 94 = .ok (.invokevirtual 74, 3) := by decide +kernel
theorem dX4_refine_97 : decode cX4_refine 97 = .ok (.iinc 4 1, 3) := by decide +kernel
theorem dX4_refine_100 : decode cX4_refine 100 = .ok (.goto (-44), 3) := by decide +kernel
theorem dX4_refine_103 : decode cX4_refine 103 = .ok (.iinc 2 1, 3) := by decide +kernel
theorem dX4_refine_106 : decode cX4_refine 106 = .ok (.goto (-94), 3) := by decide +kernel
theorem dX4_refine_109 : decode cX4_refine 109 = .ok (.return_, 1) := by decide +kernel
set_option maxRecDepth 20000 in
theorem ggX4_groupByMark_X4_openBlock : GoodIn wsX4_groupByMark wsX4_openBlock := goodIn_r _ [11, 12, 1, 13, 14, 15, 16, 17, 18, 19, 20, 21, 22, 23, 24, 25, 26, 27] (by decide +kernel) (by decide +kernel)
set_option maxRecDepth 20000 in
theorem gX4_groupByMark_X4_openBlock : GoodIn wsX4_groupByMark (wsV RX4 83 RX4 yX4_openBlock wsX4_openBlock) := goodIn_app (goodIn_of _ (by decide +kernel)) ggX4_groupByMark_X4_openBlock
theorem dX4_groupByMark_0 : decode cX4_groupByMark 0 = .ok (.aload_n 0, 1) := by decide +kernel
theorem dX4_groupByMark_1 : decode cX4_groupByMark 1 = .ok (.iconst 0, 1) := by decide +kernel
theorem dX4_groupByMark_2 : decode cX4_groupByMark 2 = .ok (.putfield 9, 3) := by decide +kernel
theorem dX4_groupByMark_5 : decode cX4_groupByMark 5 = .ok (.iconst 0, 1) := by decide +kernel
theorem dX4_groupByMark_6 : decode cX4_groupByMark 6 = .ok (.istore_n 2, 1) := by decide +kernel
theorem dX4_groupByMark_7 : decode cX4_groupByMark 7 = .ok (.iconst 0, 1) := by decide +kernel
theorem dX4_groupByMark_8 : decode cX4_groupByMark 8 = .ok (.istore_n 3, 1) := by decide +kernel
theorem dX4_groupByMark_9 : decode cX4_groupByMark 9 = .ok (.iload_n 3, 1) := by decide +kernel
theorem dX4_groupByMark_10 : decode cX4_groupByMark 10 = .ok (.bipush 10, 2) := by decide +kernel
theorem dX4_groupByMark_12 : decode cX4_groupByMark 12 = .ok (.if_icmp .ge 87, 3) := by decide +kernel
theorem dX4_groupByMark_15 : decode cX4_groupByMark 15 = .ok (.iload_n 2, 1) := by decide +kernel
theorem dX4_groupByMark_16 : decode cX4_groupByMark 16 = .ok (.istore 4, 2) := by decide +kernel
theorem dX4_groupByMark_18 : decode cX4_groupByMark 18 = .ok (.iconst 0, 1) := by decide +kernel
theorem dX4_groupByMark_19 : decode cX4_groupByMark 19 = .ok (.istore 5, 2) := by decide +kernel
theorem dX4_groupByMark_21 : decode cX4_groupByMark 21 = .ok (.iload 5, 2) := by decide +kernel
theorem dX4_groupByMark_23 : decode cX4_groupByMark 23 = .ok (.aload_n 1, 1) := by decide +kernel
theorem dX4_groupByMark_24 : decode cX4_groupByMark 24 = .ok (.getfield 77, 3) := by decide +kernel
theorem dX4_groupByMark_27 : decode cX4_groupByMark 27 = .ok (.if_icmp .ge 50, 3) := by decide +kernel
theorem dX4_groupByMark_30 : decode cX4_groupByMark 30 = .ok (.aload_n 1, 1) := by decide +kernel
theorem dX4_groupByMark_31 : decode cX4_groupByMark 31 = .ok (.getfield 80, 3) := by decide +kernel
theorem dX4_groupByMark_34 : decode cX4_groupByMark 34 = .ok (.iload 5, 2) := by decide +kernel
theorem dX4_groupByMark_36 : decode cX4_groupByMark 36 = .ok (.iaload, 1) := by decide +kernel
theorem dX4_groupByMark_37 : decode cX4_groupByMark 37 = .ok (.iload_n 3, 1) := by decide +kernel
theorem dX4_groupByMark_38 : decode cX4_groupByMark 38 = .ok (.if_icmp .ne 33, 3) := by decide +kernel
theorem dX4_groupByMark_41 : decode cX4_groupByMark 41 = .ok (.aload_n 0, 1) := by decide +kernel
theorem dX4_groupByMark_42 : decode cX4_groupByMark 42 = .ok (.getfield 17, 3) := by decide +kernel
theorem dX4_groupByMark_45 : decode cX4_groupByMark 45 = .ok (.iload_n 2, 1) := by decide +kernel
theorem dX4_groupByMark_46 : decode cX4_groupByMark 46 = .ok (.iload 5, 2) := by decide +kernel
theorem dX4_groupByMark_48 : decode cX4_groupByMark 48 = .ok (.iastore, 1) := by decide +kernel
theorem dX4_groupByMark_49 : decode cX4_groupByMark 49 = .ok (.aload_n 0, 1) := by decide +kernel
theorem dX4_groupByMark_50 : decode cX4_groupByMark 50 = .ok (.getfield 21, 3) := by decide +kernel
theorem dX4_groupByMark_53 : decode cX4_groupByMark 53 = .ok (.iload 5, 2) := by decide +kernel
theorem dX4_groupByMark_55 : decode cX4_groupByMark 55 = .ok (.iload_n 2, 1) := by decide +kernel
theorem dX4_groupByMark_56 : decode cX4_groupByMark 56 = .ok (.iastore, 1) := by decide +kernel
theorem dX4_groupByMark_57 : decode cX4_groupByMark 57 = .ok (.aload_n 0, 1) := by decide +kernel
theorem dX4_groupByMark_58 : decode cX4_groupByMark 58 = .ok (.getfield 24, 3) := by decide +kernel
theorem dX4_groupByMark_61 : decode cX4_groupByMark 61 = .ok (.iload 5, 2) := by decide +kernel
theorem dX4_groupByMark_63 : decode cX4_groupByMark 63 = .ok (.aload_n 0, 1) := by decide +kernel
theorem dX4_groupByMark_64 : decode cX4_groupByMark 64 = .ok (.getfield 9, 3) := by decide +kernel
theorem dX4_groupByMark_67 : decode cX4_groupByMark 67 = .ok (.iastore, 1) := by decide +kernel
theorem dX4_groupByMark_68 : decode cX4_groupByMark 68 = .ok (.iinc 2 1, 3) := by decide +kernel
theorem dX4_groupByMark_71 : decode cX4_groupByMark 71 = .ok (.iinc 5 1, 3) := by decide +kernel
theorem dX4_groupByMark_74 : decode cX4_groupByMark 74 = .ok (.goto (-53), 3) := by decide +kernel
theorem dX4_groupByMark_77 : decode cX4_groupByMark 77 = .ok (.iload_n 2, 1) := by decide +kernel
theorem dX4_groupByMark_78 : decode cX4_groupByMark 78 = .ok (.iload 4, 2) := by decide +kernel
theorem dX4_groupByMark_80 : decode cX4_groupByMark 80 = .ok (.if_icmp .le 13, 3) := by decide +kernel
theorem dX4_groupByMark_83 : decode cX4_groupByMark 83 = .ok (.aload_n 0, 1) := by decide +kernel
theorem dX4_groupByMark_84 : decode cX4_groupByMark 84 = .ok (.iload 4, 2) := by decide +kernel
theorem dX4_groupByMark_86 : decode cX4_groupByMark 86 = .ok (.iload_n 2, 1) := by decide +kernel
theorem dX4_groupByMark_87 : decode cX4_groupByMark 87 = .ok (.iload 4, 2) := by decide +kernel
theorem dX4_groupByMark_89 : decode cX4_groupByMark 89 = .ok (.isub, 1) := by decide +kernel
theorem dX4_groupByMark_90 : decode cX4_groupByMark 90 = .ok (.invokevirtual 83, 3) := by decide +kernel
theorem dX4_groupByMark_93 : decode cX4_groupByMark 93 = .ok (.iinc 3 1, 3) := by decide +kernel
theorem dX4_groupByMark_96 : decode cX4_groupByMark 96 = .ok (.goto (-87), 3) := by decide +kernel
theorem dX4_groupByMark_99 : decode cX4_groupByMark 99 = .ok (.return_, 1) := by decide +kernel
theorem dX4_openBlock_0 : decode cX4_openBlock 0 = .ok (.aload_n 0, 1) := by decide +kernel
theorem dX4_openBlock_1 : decode cX4_openBlock 1 = .ok (.getfield 27, 3) := by decide +kernel
theorem dX4_openBlock_4 : decode cX4_openBlock 4 = .ok (.aload_n 0, 1) := by decide +kernel
theorem dX4_openBlock_5 : decode cX4_openBlock 5 = .ok (.getfield 9, 3) := by decide +kernel
theorem dX4_openBlock_8 : decode cX4_openBlock 8 = .ok (.iload_n 1, 1) := by decide +kernel
theorem dX4_openBlock_9 : decode cX4_openBlock 9 = .ok (.iastore, 1) := by decide +kernel
theorem dX4_openBlock_10 : decode cX4_openBlock 10 = .ok (.aload_n 0, 1) := by decide +kernel
theorem dX4_openBlock_11 : decode cX4_openBlock 11 = .ok (.getfield 30, 3) := by decide +kernel
theorem dX4_openBlock_14 : decode cX4_openBlock 14 = .ok (.aload_n 0, 1) := by decide +kernel
theorem dX4_openBlock_15 : decode cX4_openBlock 15 = .ok (.getfield 9, 3) := by decide +kernel
theorem dX4_openBlock_18 : decode cX4_openBlock 18 = .ok (.iload_n 2, 1) := by decide +kernel
theorem dX4_openBlock_19 : decode cX4_openBlock 19 = .ok (.iastore, 1) := by decide +kernel
theorem dX4_openBlock_20 : decode cX4_openBlock 20 = .ok (.aload_n 0, 1) := by decide +kernel
theorem dX4_openBlock_21 : decode cX4_openBlock 21 = .ok (.getfield 33, 3) := by decide +kernel
theorem dX4_openBlock_24 : decode cX4_openBlock 24 = .ok (.aload_n 0, 1) := by decide +kernel
theorem dX4_openBlock_25 : decode cX4_openBlock 25 = .ok (.getfield 9, 3) := by decide +kernel
theorem dX4_openBlock_28 : decode cX4_openBlock 28 = .ok (.iconst 0, 1) := by decide +kernel
theorem dX4_openBlock_29 : decode cX4_openBlock 29 = .ok (.iastore, 1) := by decide +kernel
theorem dX4_openBlock_30 : decode cX4_openBlock 30 = .ok (.aload_n 0, 1) := by decide +kernel
theorem dX4_openBlock_31 : decode cX4_openBlock 31 = .ok (.dup, 1) := by decide +kernel
theorem dX4_openBlock_32 : decode cX4_openBlock 32 = .ok (.getfield 9, 3) := by decide +kernel
theorem dX4_openBlock_35 : decode cX4_openBlock 35 = .ok (.iconst 1, 1) := by decide +kernel
theorem dX4_openBlock_36 : decode cX4_openBlock 36 = .ok (.iadd, 1) := by decide +kernel
theorem dX4_openBlock_37 : decode cX4_openBlock 37 = .ok (.putfield 9, 3) := by decide +kernel
theorem dX4_openBlock_40 : decode cX4_openBlock 40 = .ok (.return_, 1) := by decide +kernel
theorem dX4_gatherSources_0 : decode cX4_gatherSources 0 = .ok (.iconst 0, 1) := by decide +kernel
theorem dX4_gatherSources_1 : decode cX4_gatherSources 1 = .ok (.istore_n 2, 1) := by decide +kernel
theorem dX4_gatherSources_2 : decode cX4_gatherSources 2 = .ok (.iconst 0, 1) := by decide +kernel
theorem dX4_gatherSources_3 : decode cX4_gatherSources 3 = .ok (.istore_n 3, 1) := by decide +kernel
theorem dX4_gatherSources_4 : decode cX4_gatherSources 4 = .ok (.iload_n 3, 1) := by decide +kernel
theorem dX4_gatherSources_5 : decode cX4_gatherSources 5 = .ok (.aload_n 1, 1) := by decide +kernel
theorem dX4_gatherSources_6 : decode cX4_gatherSources 6 = .ok (.getfield 67, 3) := by decide +kernel
theorem dX4_gatherSources_9 : decode cX4_gatherSources 9 = .ok (.if_icmp .ge 203, 3) := by decide +kernel
theorem dX4_gatherSources_12 : decode cX4_gatherSources 12 = .ok (.iload_n 3, 1) := by decide +kernel
theorem dX4_gatherSources_13 : decode cX4_gatherSources 13 = .ok (.sipush 2001, 3) := by decide +kernel
theorem dX4_gatherSources_16 : decode cX4_gatherSources 16 = .ok (.imul, 1) := by decide +kernel
theorem dX4_gatherSources_17 : decode cX4_gatherSources 17 = .ok (.istore 4, 2) := by decide +kernel
theorem dX4_gatherSources_19 : decode cX4_gatherSources 19 = .ok (.iconst 0, 1) := by decide +kernel
theorem dX4_gatherSources_20 : decode cX4_gatherSources 20 = .ok (.istore 5, 2) := by decide +kernel
theorem dX4_gatherSources_22 : decode cX4_gatherSources 22 = .ok (.iload 5, 2) := by decide +kernel
theorem dX4_gatherSources_24 : decode cX4_gatherSources 24 = .ok (.aload_n 1, 1) := by decide +kernel
theorem dX4_gatherSources_25 : decode cX4_gatherSources 25 = .ok (.getfield 77, 3) := by decide +kernel
theorem dX4_gatherSources_28 : decode cX4_gatherSources 28 = .ok (.if_icmp .ge 20, 3) := by decide +kernel
theorem dX4_gatherSources_31 : decode cX4_gatherSources 31 = .ok (.aload_n 0, 1) := by decide +kernel
theorem dX4_gatherSources_32 : decode cX4_gatherSources 32 = .ok (.getfield 48, 3) := by decide +kernel
theorem dX4_gatherSources_35 : decode cX4_gatherSources 35 = .ok (.iload 4, 2) := by decide +kernel
theorem dX4_gatherSources_37 : decode cX4_gatherSources 37 = .ok (.iload 5, 2) := by decide +kernel
theorem dX4_gatherSources_39 : decode cX4_gatherSources 39 = .ok (.iadd, 1) := by decide +kernel
theorem dX4_gatherSources_40 : decode cX4_gatherSources 40 = .ok (.iconst 0, 1) := by decide +kernel
theorem dX4_gatherSources_41 : decode cX4_gatherSources 41 = .ok (.iastore, 1) := by decide +kernel
theorem dX4_gatherSources_42 : decode cX4_gatherSources 42 = .ok (.iinc 5 1, 3) := by decide +kernel
theorem dX4_gatherSources_45 : decode cX4_gatherSources 45 = .ok (.goto (-23), 3) := by decide +kernel
theorem dX4_gatherSources_48 : decode cX4_gatherSources 48 = .ok (.iconst 0, 1) := by decide +kernel
theorem dX4_gatherSources_49 : decode cX4_gatherSources 49 = .ok (.istore 5, 2) := by decide +kernel
theorem dX4_gatherSources_51 : decode cX4_gatherSources 51 = .ok (.iload 5, 2) := by decide +kernel
theorem dX4_gatherSources_53 : decode cX4_gatherSources 53 = .ok (.aload_n 1, 1) := by decide +kernel
theorem dX4_gatherSources_54 : decode cX4_gatherSources 54 = .ok (.getfield 77, 3) := by decide +kernel
theorem dX4_gatherSources_57 : decode cX4_gatherSources 57 = .ok (.if_icmp .ge 32, 3) := by decide +kernel
theorem dX4_gatherSources_60 : decode cX4_gatherSources 60 = .ok (.aload_n 0, 1) := by decide +kernel
theorem dX4_gatherSources_61 : decode cX4_gatherSources 61 = .ok (.getfield 48, 3) := by decide +kernel
theorem dX4_gatherSources_64 : decode cX4_gatherSources 64 = .ok (.iload 4, 2) := by decide +kernel
theorem dX4_gatherSources_66 : decode cX4_gatherSources 66 = .ok (.aload_n 1, 1) := by decide +kernel
theorem dX4_gatherSources_67 : decode cX4_gatherSources 67 = .ok (.getfield 86, 3) := by decide +kernel
theorem dX4_gatherSources_70 : decode cX4_gatherSources 70 = .ok (.iload 5, 2) := by decide +kernel
theorem dX4_gatherSources_72 : decode cX4_gatherSources 72 = .ok (.iconst 3, 1) := by decide +kernel
theorem dX4_gatherSources_73 : decode cX4_gatherSources 73 = .ok (.imul, 1) := by decide +kernel
theorem dX4_gatherSources_74 : decode cX4_gatherSources 74 = .ok (.iload_n 3, 1) := by decide +kernel
theorem dX4_gatherSources_75 : decode cX4_gatherSources 75 = .ok (.iadd, 1) := by decide +kernel
theorem dX4_gatherSources_76 : decode cX4_gatherSources 76 = .ok (.iaload, 1) := by decide +kernel
theorem dX4_gatherSources_77 : decode cX4_gatherSources 77 = .ok (.iadd, 1) := by decide +kernel
theorem dX4_gatherSources_78 : decode cX4_gatherSources 78 = .ok (.dup2, 1) := by decide +kernel
theorem dX4_gatherSources_79 : decode cX4_gatherSources 79 = .ok (.iaload, 1) := by decide +kernel
theorem dX4_gatherSources_80 : decode cX4_gatherSources 80 = .ok (.iconst 1, 1) := by decide +kernel
theorem dX4_gatherSources_81 : decode cX4_gatherSources 81 = .ok (.iadd, 1) := by decide +kernel
theorem dX4_gatherSources_82 : decode cX4_gatherSources 82 = .ok (.iastore, 1) := by decide +kernel
theorem dX4_gatherSources_83 : decode cX4_gatherSources 83 = .ok (.iinc 5 1, 3) := by decide +kernel
theorem dX4_gatherSources_86 : decode cX4_gatherSources 86 = .ok (.goto (-35), 3) := by decide +kernel
theorem dX4_gatherSources_89 : decode cX4_gatherSources 89 = .ok (.iconst 0, 1) := by decide +kernel
theorem dX4_gatherSources_90 : decode cX4_gatherSources 90 = .ok (.istore 5, 2) := by decide +kernel
theorem dX4_gatherSources_92 : decode cX4_gatherSources 92 = .ok (.iload 5, 2) := by decide +kernel
theorem dX4_gatherSources_94 : decode cX4_gatherSources 94 = .ok (.aload_n 1, 1) := by decide +kernel
theorem dX4_gatherSources_95 : decode cX4_gatherSources 95 = .ok (.getfield 77, 3) := by decide +kernel
theorem dX4_gatherSources_98 : decode cX4_gatherSources 98 = .ok (.if_icmp .ge 33, 3) := by decide +kernel
theorem dX4_gatherSources_101 : decode cX4_gatherSources 101 = .ok (.iload_n 2, 1) := by decide +kernel
theorem dX4_gatherSources_102 : decode cX4_gatherSources 102 = .ok (.aload_n 0, 1) := by decide +kernel
theorem dX4_gatherSources_103 : decode cX4_gatherSources 103 = .ok (.getfield 48, 3) := by decide +kernel
theorem dX4_gatherSources_106 : decode cX4_gatherSources 106 = .ok (.iload 4, 2) := by decide +kernel
theorem dX4_gatherSources_108 : decode cX4_gatherSources 108 = .ok (.iload 5, 2) := by decide +kernel
theorem dX4_gatherSources_110 : decode cX4_gatherSources 110 = .ok (.iadd, 1) := by decide +kernel
theorem dX4_gatherSources_111 : decode cX4_gatherSources 111 = .ok (.iaload, 1) := by decide +kernel
theorem dX4_gatherSources_112 : decode cX4_gatherSources 112 = .ok (.iadd, 1) := by decide +kernel
theorem dX4_gatherSources_113 : decode cX4_gatherSources 113 = .ok (.istore_n 2, 1) := by decide +kernel
theorem dX4_gatherSources_114 : decode cX4_gatherSources 114 = .ok (.aload_n 0, 1) := by decide +kernel
theorem dX4_gatherSources_115 : decode cX4_gatherSources 115 = .ok (.getfield 48, 3) := by decide +kernel
theorem dX4_gatherSources_118 : decode cX4_gatherSources 118 = .ok (.iload 4, 2) := by decide +kernel
theorem dX4_gatherSources_120 : decode cX4_gatherSources 120 = .ok (.iload 5, 2) := by decide +kernel
theorem dX4_gatherSources_122 : decode cX4_gatherSources 122 = .ok (.iadd, 1) := by decide +kernel
theorem dX4_gatherSources_123 : decode cX4_gatherSources 123 = .ok (.iload_n 2, 1) := by decide +kernel
theorem dX4_gatherSources_124 : decode cX4_gatherSources 124 = .ok (.iastore, 1) := by decide +kernel
theorem dX4_gatherSources_125 : decode cX4_gatherSources 125 = .ok (.iinc 5 1, 3) := by decide +kernel
theorem dX4_gatherSources_128 : decode cX4_gatherSources 128 = .ok (.goto (-36), 3) := by decide +kernel
theorem dX4_gatherSources_131 : decode cX4_gatherSources 131 = .ok (.aload_n 0, 1) := by decide +kernel
theorem dX4_gatherSources_132 : decode cX4_gatherSources 132 = .ok (.getfield 48, 3) := by decide +kernel
theorem dX4_gatherSources_135 : decode cX4_gatherSources 135 = .ok (.iload 4, 2) := by decide +kernel
theorem dX4_gatherSources_137 : decode cX4_gatherSources 137 = .ok (.aload_n 1, 1) := by decide +kernel
theorem dX4_gatherSources_138 : decode cX4_gatherSources 138 = .ok (.getfield 77, 3) := by decide +kernel
theorem dX4_gatherSources_141 : decode cX4_gatherSources 141 = .ok (.iadd, 1) := by decide +kernel
theorem dX4_gatherSources_142 : decode cX4_gatherSources 142 = .ok (.iload_n 2, 1) := by decide +kernel
theorem dX4_gatherSources_143 : decode cX4_gatherSources 143 = .ok (.iastore, 1) := by decide +kernel
theorem dX4_gatherSources_144 : decode cX4_gatherSources 144 = .ok (.iconst 0, 1) := by decide +kernel
theorem dX4_gatherSources_145 : decode cX4_gatherSources 145 = .ok (.istore 5, 2) := by decide +kernel
theorem dX4_gatherSources_147 : decode cX4_gatherSources 147 = .ok (.iload 5, 2) := by decide +kernel
theorem dX4_gatherSources_149 : decode cX4_gatherSources 149 = .ok (.aload_n 1, 1) := by decide +kernel
theorem dX4_gatherSources_150 : decode cX4_gatherSources 150 = .ok (.getfield 77, 3) := by decide +kernel
theorem dX4_gatherSources_153 : decode cX4_gatherSources 153 = .ok (.if_icmp .ge 53, 3) := by decide +kernel
theorem dX4_gatherSources_156 : decode cX4_gatherSources 156 = .ok (.aload_n 1, 1) := by decide +kernel
theorem dX4_gatherSources_157 : decode cX4_gatherSources 157 = .ok (.getfield 86, 3) := by decide +kernel
theorem dX4_gatherSources_160 : decode cX4_gatherSources 160 = .ok (.iload 5, 2) := by decide +kernel
theorem dX4_gatherSources_162 : decode cX4_gatherSources 162 = .ok (.iconst 3, 1) := by decide +kernel
theorem dX4_gatherSources_163 : decode cX4_gatherSources 163 = .ok (.imul, 1) := by decide +kernel
theorem dX4_gatherSources_164 : decode cX4_gatherSources 164 = .ok (.iload_n 3, 1) := by decide +kernel
theorem dX4_gatherSources_165 : decode cX4_gatherSources 165 = .ok (.iadd, 1) := by decide +kernel
theorem dX4_gatherSources_166 : decode cX4_gatherSources 166 = .ok (.iaload, 1) := by decide +kernel
theorem dX4_gatherSources_167 : decode cX4_gatherSources 167 = .ok (.istore 6, 2) := by decide +kernel
theorem dX4_gatherSources_169 : decode cX4_gatherSources 169 = .ok (.aload_n 0, 1) := by decide +kernel
theorem dX4_gatherSources_170 : decode cX4_gatherSources 170 = .ok (.getfield 48, 3) := by decide +kernel
theorem dX4_gatherSources_173 : decode cX4_gatherSources 173 = .ok (.iload 4, 2) := by decide +kernel
theorem dX4_gatherSources_175 : decode cX4_gatherSources 175 = .ok (.iload 6, 2) := by decide +kernel
theorem dX4_gatherSources_177 : decode cX4_gatherSources 177 = .ok (.iadd, 1) := by decide +kernel
theorem dX4_gatherSources_178 : decode cX4_gatherSources 178 = .ok (.dup2, 1) := by decide +kernel
theorem dX4_gatherSources_179 : decode cX4_gatherSources 179 = .ok (.iaload, 1) := by decide +kernel
theorem dX4_gatherSources_180 : decode cX4_gatherSources 180 = .ok (.iconst 1, 1) := by decide +kernel
theorem dX4_gatherSources_181 : decode cX4_gatherSources 181 = .ok (.isub, 1) := by decide +kernel
theorem dX4_gatherSources_182 : decode cX4_gatherSources 182 = .ok (.iastore, 1) := by decide +kernel
theorem dX4_gatherSources_183 : decode cX4_gatherSources 183 = .ok (.aload_n 0, 1) := by decide +kernel
theorem dX4_gatherSources_184 : decode cX4_gatherSources 184 = .ok (.getfield 51, 3) := by decide +kernel
theorem dX4_gatherSources_187 : decode cX4_gatherSources 187 = .ok (.aload_n 0, 1) := by decide +kernel
theorem dX4_gatherSources_188 : decode cX4_gatherSources 188 = .ok (.getfield 48, 3) := by decide +kernel
theorem dX4_gatherSources_191 : decode cX4_gatherSources 191 = .ok (.iload 4, 2) := by decide +kernel
theorem dX4_gatherSources_193 : decode cX4_gatherSources 193 = .ok (.iload 6, 2) := by decide +kernel
theorem dX4_gatherSources_195 : decode cX4_gatherSources 195 = .ok (.iadd, 1) := by decide +kernel
theorem dX4_gatherSources_196 : decode cX4_gatherSources 196 = .ok (.iaload, 1) := by decide +kernel
theorem dX4_gatherSources_197 : decode cX4_gatherSources 197 = .ok (.iload 5, 2) := by decide +kernel
theorem dX4_gatherSources_199 : decode cX4_gatherSources 199 = .ok (.iastore, 1) := by decide +kernel
theorem dX4_gatherSources_200 : decode cX4_gatherSources 200 = .ok (.iinc 5 1, 3) := by decide +kernel
theorem dX4_gatherSources_203 : decode cX4_gatherSources 203 = .ok (.goto (-56), 3) := by decide +kernel
theorem dX4_gatherSources_206 : decode cX4_gatherSources 206 = .ok (.iinc 3 1, 3) := by decide +kernel
theorem dX4_gatherSources_209 : decode cX4_gatherSources 209 = .ok (.goto (-205), 3) := by decide +kernel
theorem dX4_gatherSources_212 : decode cX4_gatherSources 212 = .ok (.return_, 1) := by decide +kernel
set_option maxRecDepth 20000 in
theorem ggX4_markSources_X4_mark : GoodIn wsX4_markSources wsX4_mark := goodIn_r _ [7, 8, 9, 10, 11, 12, 13, 14, 15, 16, 17, 18, 19, 20, 21, 22, 23, 24, 25, 26, 27] (by decide +kernel) (by decide +kernel)
set_option maxRecDepth 20000 in
theorem gX4_markSources_X4_mark : GoodIn wsX4_markSources (wsV RX4 89 RX4 yX4_mark wsX4_mark) := goodIn_app (goodIn_of _ (by decide +kernel)) ggX4_markSources_X4_mark
theorem dX4_markSources_0 : decode cX4_markSources 0 = .ok (.iload_n 1, 1) := by decide +kernel
theorem dX4_markSources_1 : decode cX4_markSources 1 = .ok (.sipush 2001, 3) := by decide +kernel
theorem dX4_markSources_4 : decode cX4_markSources 4 = .ok (.imul, 1) := by decide +kernel
theorem dX4_markSources_5 : decode cX4_markSources 5 = .ok (.iload_n 2, 1) := by decide +kernel
theorem dX4_markSources_6 : decode cX4_markSources 6 = .ok (.iadd, 1) := by decide +kernel
theorem dX4_markSources_7 : decode cX4_markSources 7 = .ok (.istore_n 3, 1) := by decide +kernel
theorem dX4_markSources_8 : decode cX4_markSources 8 = .ok (.aload_n 0, 1) := by decide +kernel
theorem dX4_markSources_9 : decode cX4_markSources 9 = .ok (.getfield 48, 3) := by decide +kernel
theorem dX4_markSources_12 : decode cX4_markSources 12 = .ok (.iload_n 3, 1) := by decide +kernel
theorem dX4_markSources_13 : decode cX4_markSources 13 = .ok (.iaload, 1) := by decide +kernel
theorem dX4_markSources_14 : decode cX4_markSources 14 = .ok (.istore 4, 2) := by decide +kernel
theorem dX4_markSources_16 : decode cX4_markSources 16 = .ok (.iload 4, 2) := by decide +kernel
theorem dX4_markSources_18 : decode cX4_markSources 18 = .ok (.aload_n 0, 1) := by decide +kernel
theorem dX4_markSources_19 : decode cX4_markSources 19 = .ok (.getfield 48, 3) := by decide +kernel
theorem dX4_markSources_22 : decode cX4_markSources 22 = .ok (.iload_n 3, 1) := by decide +kernel
theorem dX4_markSources_23 : decode cX4_markSources 23 = .ok (.iconst 1, 1) := by decide +kernel
theorem dX4_markSources_24 : decode cX4_markSources 24 = .ok (.iadd, 1) := by decide +kernel
theorem dX4_markSources_25 : decode cX4_markSources 25 = .ok (.iaload, 1) := by decide +kernel
theorem dX4_markSources_26 : decode cX4_markSources 26 = .ok (.if_icmp .ge 20, 3) := by decide +kernel
theorem dX4_markSources_29 : decode cX4_markSources 29 = .ok (.aload_n 0, 1) := by decide +kernel
theorem dX4_markSources_30 : decode cX4_markSources 30 = .ok (.aload_n 0, 1) := by decide +kernel
theorem dX4_markSources_31 : decode cX4_markSources 31 = .ok (.getfield 51, 3) := by decide +kernel
theorem dX4_markSources_34 : decode cX4_markSources 34 = .ok (.iload 4, 2) := by decide +kernel
theorem dX4_markSources_36 : decode cX4_markSources 36 = .ok (.iaload, 1) := by decide +kernel
theorem dX4_markSources_37 : decode cX4_markSources 37 = .ok (.invokevirtual 89, 3) := by decide +kernel
theorem dX4_markSources_40 : decode cX4_markSources 40 = .ok (.iinc 4 1, 3) := by decide +kernel
theorem dX4_markSources_43 : decode cX4_markSources 43 = .ok (.goto (-27), 3) := by decide +kernel
theorem dX4_markSources_46 : decode cX4_markSources 46 = .ok (.return_, 1) := by decide +kernel
theorem dX4_mark_0 : decode cX4_mark 0 = .ok (.aload_n 0, 1) := by decide +kernel
theorem dX4_mark_1 : decode cX4_mark 1 = .ok (.getfield 24, 3) := by decide +kernel
theorem dX4_mark_4 : decode cX4_mark 4 = .ok (.iload_n 1, 1) := by decide +kernel
theorem dX4_mark_5 : decode cX4_mark 5 = .ok (.iaload, 1) := by decide +kernel
theorem dX4_mark_6 : decode cX4_mark 6 = .ok (.istore_n 2, 1) := by decide +kernel
theorem dX4_mark_7 : decode cX4_mark 7 = .ok (.aload_n 0, 1) := by decide +kernel
theorem dX4_mark_8 : decode cX4_mark 8 = .ok (.getfield 27, 3) := by decide +kernel
theorem dX4_mark_11 : decode cX4_mark 11 = .ok (.iload_n 2, 1) := by decide +kernel
theorem dX4_mark_12 : decode cX4_mark 12 = .ok (.iaload, 1) := by decide +kernel
theorem dX4_mark_13 : decode cX4_mark 13 = .ok (.aload_n 0, 1) := by decide +kernel
theorem dX4_mark_14 : decode cX4_mark 14 = .ok (.getfield 33, 3) := by decide +kernel
theorem dX4_mark_17 : decode cX4_mark 17 = .ok (.iload_n 2, 1) := by decide +kernel
theorem dX4_mark_18 : decode cX4_mark 18 = .ok (.iaload, 1) := by decide +kernel
theorem dX4_mark_19 : decode cX4_mark 19 = .ok (.iadd, 1) := by decide +kernel
theorem dX4_mark_20 : decode cX4_mark 20 = .ok (.istore_n 3, 1) := by decide +kernel
theorem dX4_mark_21 : decode cX4_mark 21 = .ok (.aload_n 0, 1) := by decide +kernel
theorem dX4_mark_22 : decode cX4_mark 22 = .ok (.getfield 21, 3) := by decide +kernel
theorem dX4_mark_25 : decode cX4_mark 25 = .ok (.iload_n 1, 1) := by decide +kernel
theorem dX4_mark_26 : decode cX4_mark 26 = .ok (.iaload, 1) := by decide +kernel
theorem dX4_mark_27 : decode cX4_mark 27 = .ok (.istore 4, 2) := by decide +kernel
theorem dX4_mark_29 : decode cX4_mark 29 = .ok (.iload 4, 2) := by decide +kernel
theorem dX4_mark_31 : decode cX4_mark 31 = .ok (.iload_n 3, 1) := by decide +kernel
theorem dX4_mark_32 : decode cX4_mark 32 = .ok (.if_icmp .ge 4, 3) := by decide +kernel
theorem dX4_mark_35 : decode cX4_mark 35 = .ok (.return_, 1) := by decide +kernel
theorem dX4_mark_36 : decode cX4_mark 36 = .ok (.aload_n 0, 1) := by decide +kernel
theorem dX4_mark_37 : decode cX4_mark 37 = .ok (.getfield 17, 3) := by decide +kernel
theorem dX4_mark_40 : decode cX4_mark 40 = .ok (.iload_n 3, 1) := by decide +kernel
theorem dX4_mark_41 : decode cX4_mark 41 = .ok (.iaload, 1) := by decide +kernel
theorem dX4_mark_42 : decode cX4_mark 42 = .ok (.istore 5, 2) := by decide +kernel
theorem dX4_mark_44 : decode cX4_mark 44 = .ok (.aload_n 0, 1) := by decide +kernel
theorem dX4_mark_45 : decode cX4_mark 45 = .ok (.getfield 17, 3) := by decide +kernel
theorem dX4_mark_48 : decode cX4_mark 48 = .ok (.iload_n 3, 1) := by decide +kernel
theorem dX4_mark_49 : decode cX4_mark 49 = .ok (.iload_n 1, 1) := by decide +kernel
theorem dX4_mark_50 : decode cX4_mark 50 = .ok (.iastore, 1) := by decide +kernel
theorem dX4_mark_51 : decode cX4_mark 51 = .ok (.aload_n 0, 1) := by decide +kernel
theorem dX4_mark_52 : decode cX4_mark 52 = .ok (.getfield 21, 3) := by decide +kernel
theorem dX4_mark_55 : decode cX4_mark 55 = .ok (.iload_n 1, 1) := by decide +kernel
theorem dX4_mark_56 : decode cX4_mark 56 = .ok (.iload_n 3, 1) := by decide +kernel
theorem dX4_mark_57 : decode cX4_mark 57 = .ok (.iastore, 1) := by decide +kernel
theorem dX4_mark_58 : decode cX4_mark 58 = .ok (.aload_n 0, 1) := by decide +kernel
theorem dX4_mark_59 : decode cX4_mark 59 = .ok (.getfield 17, 3) := by decide +kernel
theorem dX4_mark_62 : decode cX4_mark 62 = .ok (.iload 4, 2) := by decide +kernel
theorem dX4_mark_64 : decode cX4_mark 64 = .ok (.iload 5, 2) := by decide +kernel
theorem dX4_mark_66 : decode cX4_mark 66 = .ok (.iastore, 1) := by decide +kernel
theorem dX4_mark_67 : decode cX4_mark 67 = .ok (.aload_n 0, 1) := by decide +kernel
theorem dX4_mark_68 : decode cX4_mark 68 = .ok (.getfield 21, 3) := by decide +kernel
theorem dX4_mark_71 : decode cX4_mark 71 = .ok (.iload 5, 2) := by decide +kernel
theorem dX4_mark_73 : decode cX4_mark 73 = .ok (.iload 4, 2) := by decide +kernel
theorem dX4_mark_75 : decode cX4_mark 75 = .ok (.iastore, 1) := by decide +kernel
theorem dX4_mark_76 : decode cX4_mark 76 = .ok (.aload_n 0, 1) := by decide +kernel
theorem dX4_mark_77 : decode cX4_mark 77 = .ok (.getfield 33, 3) := by decide +kernel
theorem dX4_mark_80 : decode cX4_mark 80 = .ok (.iload_n 2, 1) := by decide +kernel
theorem dX4_mark_81 : decode cX4_mark 81 = .ok (.iaload, 1) := by decide +kernel
theorem dX4_mark_82 : decode cX4_mark 82 = .ok (.ifCond .ne 23, 3) := by decide +kernel
theorem dX4_mark_85 : decode cX4_mark 85 = .ok (.aload_n 0, 1) := by decide +kernel
theorem dX4_mark_86 : decode cX4_mark 86 = .ok (.getfield 36, 3) := by decide +kernel
theorem dX4_mark_89 : decode cX4_mark 89 = .ok (.aload_n 0, 1) := by decide +kernel
theorem dX4_mark_90 : decode cX4_mark 90 = .ok (.getfield 39, 3) := by decide +kernel
theorem dX4_mark_93 : decode cX4_mark 93 = .ok (.iload_n 2, 1) := by decide +kernel
theorem dX4_mark_94 : decode cX4_mark 94 = .ok (.iastore, 1) := by decide +kernel
theorem dX4_mark_95 : decode cX4_mark 95 = .ok (.aload_n 0, 1) := by decide +kernel
theorem dX4_mark_96 : decode cX4_mark 96 = .ok (.dup, 1) := by decide +kernel
theorem dX4_mark_97 : decode cX4_mark 97 = .ok (.getfield 39, 3) := by decide +kernel
theorem dX4_mark_100 : decode cX4_mark 100 = .ok (.iconst 1, 1) := by decide +kernel
theorem dX4_mark_101 : decode cX4_mark 101 = .ok (.iadd, 1) := by decide +kernel
theorem dX4_mark_102 : decode cX4_mark 102 = .ok (.putfield 39, 3) := by decide +kernel
theorem dX4_mark_105 : decode cX4_mark 105 = .ok (.aload_n 0, 1) := by decide +kernel
theorem dX4_mark_106 : decode cX4_mark 106 = .ok (.getfield 33, 3) := by decide +kernel
theorem dX4_mark_109 : decode cX4_mark 109 = .ok (.iload_n 2, 1) := by decide +kernel
theorem dX4_mark_110 : decode cX4_mark 110 = .ok (.dup2, 1) := by decide +kernel
theorem dX4_mark_111 : decode cX4_mark 111 = .ok (.iaload, 1) := by decide +kernel
theorem dX4_mark_112 : decode cX4_mark 112 = .ok (.iconst 1, 1) := by decide +kernel
theorem dX4_mark_113 : decode cX4_mark 113 = .ok (.iadd, 1) := by decide +kernel
theorem dX4_mark_114 : decode cX4_mark 114 = .ok (.iastore, 1) := by decide +kernel
theorem dX4_mark_115 : decode cX4_mark 115 = .ok (.return_, 1) := by decide +kernel
set_option maxRecDepth 20000 in
theorem ggX4_splitTouched_X4_split : GoodIn wsX4_splitTouched wsX4_split := goodIn_r _ [7, 8, 9, 10, 11, 12, 13, 14, 15, 16, 6, 17, 18, 19, 20, 21, 22, 23, 24, 25, 26, 27, 28, 29, 30] (by decide +kernel) (by decide +kernel)
set_option maxRecDepth 20000 in
theorem gX4_splitTouched_X4_split : GoodIn wsX4_splitTouched (wsV RX4 93 RX4 yX4_split wsX4_split) := goodIn_app (goodIn_of _ (by decide +kernel)) ggX4_splitTouched_X4_split
theorem dX4_splitTouched_0 : decode cX4_splitTouched 0 = .ok (.iconst 0, 1) := by decide +kernel
theorem dX4_splitTouched_1 : decode cX4_splitTouched 1 = .ok (.istore_n 1, 1) := by decide +kernel
theorem dX4_splitTouched_2 : decode cX4_splitTouched 2 = .ok (.iload_n 1, 1) := by decide +kernel
theorem dX4_splitTouched_3 : decode cX4_splitTouched 3 = .ok (.aload_n 0, 1) := by decide +kernel
theorem dX4_splitTouched_4 : decode cX4_splitTouched 4 = .ok (.getfield 39, 3) := by decide +kernel
theorem dX4_splitTouched_7 : decode cX4_splitTouched 7 = .ok (.if_icmp .ge 19, 3) := by decide +kernel
theorem dX4_splitTouched_10 : decode cX4_splitTouched 10 = .ok (.aload_n 0, 1) := by decide +kernel
theorem dX4_splitTouched_11 : decode cX4_splitTouched 11 = .ok (.aload_n 0, 1) := by decide +kernel
theorem dX4_splitTouched_12 : decode cX4_splitTouched 12 = .ok (.getfield 36, 3) := by decide +kernel
theorem dX4_splitTouched_15 : decode cX4_splitTouched 15 = .ok (.iload_n 1, 1) := by decide +kernel
theorem dX4_splitTouched_16 : decode cX4_splitTouched 16 = .ok (.iaload, 1) := by decide +kernel
theorem dX4_splitTouched_17 : decode cX4_splitTouched 17 = .ok (.invokevirtual 93, 3) := by decide +kernel
theorem dX4_splitTouched_20 : decode cX4_splitTouched 20 = .ok (.iinc 1 1, 3) := by decide +kernel
theorem dX4_splitTouched_23 : decode cX4_splitTouched 23 = .ok (.goto (-21), 3) := by decide +kernel
theorem dX4_splitTouched_26 : decode cX4_splitTouched 26 = .ok (.aload_n 0, 1) := by decide +kernel
theorem dX4_splitTouched_27 : decode cX4_splitTouched 27 = .ok (.iconst 0, 1) := by decide +kernel
theorem dX4_splitTouched_28 : decode cX4_splitTouched 28 = .ok (.putfield 39, 3) := by decide +kernel
theorem dX4_splitTouched_31 : decode cX4_splitTouched 31 = .ok (.return_, 1) := by decide +kernel
set_option maxRecDepth 20000 in
theorem ggX4_split_X4_openBlock : GoodIn wsX4_split wsX4_openBlock := goodIn_r _ [11, 4, 3, 2, 1, 12, 13, 14, 15, 16, 17, 18, 19, 20, 21, 22, 23, 24] (by decide +kernel) (by decide +kernel)
set_option maxRecDepth 20000 in
theorem gX4_split_X4_openBlock : GoodIn wsX4_split (wsV RX4 83 RX4 yX4_openBlock wsX4_openBlock) := goodIn_app (goodIn_of _ (by decide +kernel)) ggX4_split_X4_openBlock
theorem dX4_split_0 : decode cX4_split 0 = .ok (.aload_n 0, 1) := by decide +kernel
theorem dX4_split_1 : decode cX4_split 1 = .ok (.getfield 33, 3) := by decide +kernel
theorem dX4_split_4 : decode cX4_split 4 = .ok (.iload_n 1, 1) := by decide +kernel
theorem dX4_split_5 : decode cX4_split 5 = .ok (.iaload, 1) := by decide +kernel
theorem dX4_split_6 : decode cX4_split 6 = .ok (.istore_n 2, 1) := by decide +kernel
theorem dX4_split_7 : decode cX4_split 7 = .ok (.aload_n 0, 1) := by decide +kernel
theorem dX4_split_8 : decode cX4_split 8 = .ok (.getfield 30, 3) := by decide +kernel
theorem dX4_split_11 : decode cX4_split 11 = .ok (.iload_n 1, 1) := by decide +kernel
theorem dX4_split_12 : decode cX4_split 12 = .ok (.iaload, 1) := by decide +kernel
theorem dX4_split_13 : decode cX4_split 13 = .ok (.iload_n 2, 1) := by decide +kernel
theorem dX4_split_14 : decode cX4_split 14 = .ok (.isub, 1) := by decide +kernel
theorem dX4_split_15 : decode cX4_split 15 = .ok (.istore_n 3, 1) := by decide +kernel
theorem dX4_split_16 : decode cX4_split 16 = .ok (.aload_n 0, 1) := by decide +kernel
theorem dX4_split_17 : decode cX4_split 17 = .ok (.getfield 33, 3) := by decide +kernel
theorem dX4_split_20 : decode cX4_split 20 = .ok (.iload_n 1, 1) := by decide +kernel
theorem dX4_split_21 : decode cX4_split 21 = .ok (.iconst 0, 1) := by decide +kernel
theorem dX4_split_22 : decode cX4_split 22 = .ok (.iastore, 1) := by decide +kernel
theorem dX4_split_23 : decode cX4_split 23 = .ok (.iload_n 3, 1) := by decide +kernel
theorem dX4_split_24 : decode cX4_split 24 = .ok (.ifCond .ne 4, 3) := by decide +kernel
theorem dX4_split_27 : decode cX4_split 27 = .ok (.return_, 1) := by decide +kernel
theorem dX4_split_28 : decode cX4_split 28 = .ok (.aload_n 0, 1) := by decide +kernel
theorem dX4_split_29 : decode cX4_split 29 = .ok (.getfield 9, 3) := by decide +kernel
theorem dX4_split_32 : decode cX4_split 32 = .ok (.istore 4, 2) := by decide +kernel
theorem dX4_split_34 : decode cX4_split 34 = .ok (.iload_n 2, 1) := by decide +kernel
theorem dX4_split_35 : decode cX4_split 35 = .ok (.iload_n 3, 1) := by decide +kernel
theorem dX4_split_36 : decode cX4_split 36 = .ok (.if_icmp .gt 34, 3) := by decide +kernel
theorem dX4_split_39 : decode cX4_split 39 = .ok (.aload_n 0, 1) := by decide +kernel
theorem dX4_split_40 : decode cX4_split 40 = .ok (.aload_n 0, 1) := by decide +kernel
theorem dX4_split_41 : decode cX4_split 41 = .ok (.getfield 27, 3) := by decide +kernel
theorem dX4_split_44 : decode cX4_split 44 = .ok (.iload_n 1, 1) := by decide +kernel
theorem dX4_split_45 : decode cX4_split 45 = .ok (.iaload, 1) := by decide +kernel
theorem dX4_split_46 : decode cX4_split 46 = .ok (.iload_n 2, 1) := by decide +kernel
theorem dX4_split_47 : decode cX4_split 47 = .ok (.invokevirtual 83, 3) := by decide +kernel
theorem dX4_split_50 : decode cX4_split 50 = .ok (.aload_n 0, 1) := by decide +kernel
theorem dX4_split_51 : decode cX4_split 51 = .ok (.getfield 27, 3) := by decide +kernel
theorem dX4_split_54 : decode cX4_split 54 = .ok (.iload_n 1, 1) := by decide +kernel
theorem dX4_split_55 : decode cX4_split 55 = .ok (.dup2, 1) := by decide +kernel
theorem dX4_split_56 : decode cX4_split 56 = .ok (.iaload, 1) := by decide +kernel
theorem dX4_split_57 : decode cX4_split 57 = .ok (.iload_n 2, 1) := by decide +kernel
theorem dX4_split_58 : decode cX4_split 58 = .ok (.iadd, 1) := by decide +kernel
theorem dX4_split_59 : decode cX4_split 59 = .ok (.iastore, 1) := by decide +kernel
theorem dX4_split_60 : decode cX4_split 60 = .ok (.aload_n 0, 1) := by decide +kernel
theorem dX4_split_61 : decode cX4_split 61 = .ok (.getfield 30, 3) := by decide +kernel
theorem dX4_split_64 : decode cX4_split 64 = .ok (.iload_n 1, 1) := by decide +kernel
theorem dX4_split_65 : decode cX4_split 65 = .ok (.iload_n 3, 1) := by decide +kernel
theorem dX4_split_66 : decode cX4_split 66 = .ok (.iastore, 1) := by decide +kernel
theorem dX4_split_67 : decode cX4_split 67 = .ok (.goto 23, 3) := by decide +kernel
theorem dX4_split_70 : decode cX4_split 70 = .ok (.aload_n 0, 1) := by decide +kernel
theorem dX4_split_71 : decode cX4_split 71 = .ok (.aload_n 0, 1) := by decide +kernel
theorem dX4_split_72 : decode cX4_split 72 = .ok (.getfield 27, 3) := by decide +kernel
theorem dX4_split_75 : decode cX4_split 75 = .ok (.iload_n 1, 1) := by decide +kernel
theorem dX4_split_76 : decode cX4_split 76 = .ok (.iaload, 1) := by decide +kernel
theorem dX4_split_77 : decode cX4_split 77 = .ok (.iload_n 2, 1) := by decide +kernel
theorem dX4_split_78 : decode cX4_split 78 = .ok (.iadd, 1) := by decide +kernel
theorem dX4_split_79 : decode cX4_split 79 = .ok (.iload_n 3, 1) := by decide +kernel
theorem dX4_split_80 : decode cX4_split 80 = .ok (.invokevirtual 83, 3) := by decide +kernel
theorem dX4_split_83 : decode cX4_split 83 = .ok (.aload_n 0, 1) := by decide +kernel
theorem dX4_split_84 : decode cX4_split 84 = .ok (.getfield 30, 3) := by decide +kernel
theorem dX4_split_87 : decode cX4_split 87 = .ok (.iload_n 1, 1) := by decide +kernel
theorem dX4_split_88 : decode cX4_split 88 = .ok (.iload_n 2, 1) := by decide +kernel
theorem dX4_split_89 : decode cX4_split 89 = .ok (.iastore, 1) := by decide +kernel
theorem dX4_split_90 : decode cX4_split 90 = .ok (.aload_n 0, 1) := by decide +kernel
theorem dX4_split_91 : decode cX4_split 91 = .ok (.getfield 27, 3) := by decide +kernel
theorem dX4_split_94 : decode cX4_split 94 = .ok (.iload 4, 2) := by decide +kernel
theorem dX4_split_96 : decode cX4_split 96 = .ok (.iaload, 1) := by decide +kernel
theorem dX4_split_97 : decode cX4_split 97 = .ok (.istore 5, 2) := by decide +kernel
theorem dX4_split_99 : decode cX4_split 99 = .ok (.iload 5, 2) := by decide +kernel
theorem dX4_split_101 : decode cX4_split 101 = .ok (.aload_n 0, 1) := by decide +kernel
theorem dX4_split_102 : decode cX4_split 102 = .ok (.getfield 27, 3) := by decide +kernel
theorem dX4_split_105 : decode cX4_split 105 = .ok (.iload 4, 2) := by decide +kernel
theorem dX4_split_107 : decode cX4_split 107 = .ok (.iaload, 1) := by decide +kernel
theorem dX4_split_108 : decode cX4_split 108 = .ok (.aload_n 0, 1) := by decide +kernel
theorem dX4_split_109 : decode cX4_split 109 = .ok (.getfield 30, 3) := by decide +kernel
theorem dX4_split_112 : decode cX4_split 112 = .ok (.iload 4, 2) := by decide +kernel
theorem dX4_split_114 : decode cX4_split 114 = .ok (.iaload, 1) := by decide +kernel
theorem dX4_split_115 : decode cX4_split 115 = .ok (.iadd, 1) := by decide +kernel
theorem dX4_split_116 : decode cX4_split 116 = .ok (.if_icmp .ge 23, 3) := by decide +kernel
theorem dX4_split_119 : decode cX4_split 119 = .ok (.aload_n 0, 1) := by decide +kernel
theorem dX4_split_120 : decode cX4_split 120 = .ok (.getfield 24, 3) := by decide +kernel
theorem dX4_split_123 : decode cX4_split 123 = .ok (.aload_n 0, 1) := by decide +kernel
theorem dX4_split_124 : decode cX4_split 124 = .ok (.getfield 17, 3) := by decide +kernel
theorem dX4_split_127 : decode cX4_split 127 = .ok (.iload 5, 2) := by decide +kernel
theorem dX4_split_129 : decode cX4_split 129 = .ok (.iaload, 1) := by decide +kernel
theorem dX4_split_130 : decode cX4_split 130 = .ok (.iload 4, 2) := by decide +kernel
theorem dX4_split_132 : decode cX4_split 132 = .ok (.iastore, 1) := by decide +kernel
theorem dX4_split_133 : decode cX4_split 133 = .ok (.iinc 5 1, 3) := by decide +kernel
theorem dX4_split_136 : decode cX4_split 136 = .ok (.goto (-37), 3) := by decide +kernel
theorem dX4_split_139 : decode cX4_split 139 = .ok (.return_, 1) := by decide +kernel
theorem dX4_nextBlock_0 : decode cX4_nextBlock 0 = .ok (.aload_n 0, 1) := by decide +kernel
theorem dX4_nextBlock_1 : decode cX4_nextBlock 1 = .ok (.getfield 24, 3) := by decide +kernel
theorem dX4_nextBlock_4 : decode cX4_nextBlock 4 = .ok (.aload_n 1, 1) := by decide +kernel
theorem dX4_nextBlock_5 : decode cX4_nextBlock 5 = .ok (.getfield 86, 3) := by decide +kernel
theorem dX4_nextBlock_8 : decode cX4_nextBlock 8 = .ok (.aload_n 0, 1) := by decide +kernel
theorem dX4_nextBlock_9 : decode cX4_nextBlock 9 = .ok (.getfield 17, 3) := by decide +kernel
theorem dX4_nextBlock_12 : decode cX4_nextBlock 12 = .ok (.aload_n 0, 1) := by decide +kernel
theorem dX4_nextBlock_13 : decode cX4_nextBlock 13 = .ok (.getfield 27, 3) := by decide +kernel
theorem dX4_nextBlock_16 : decode cX4_nextBlock 16 = .ok (.iload_n 2, 1) := by decide +kernel
theorem dX4_nextBlock_17 : decode cX4_nextBlock 17 = .ok (.iaload, 1) := by decide +kernel
theorem dX4_nextBlock_18 : decode cX4_nextBlock 18 = .ok (.iaload, 1) := by decide +kernel
theorem dX4_nextBlock_19 : decode cX4_nextBlock 19 = .ok (.iconst 3, 1) := by decide +kernel
theorem dX4_nextBlock_20 : decode cX4_nextBlock 20 = .ok (.imul, 1) := by decide +kernel
theorem dX4_nextBlock_21 : decode cX4_nextBlock 21 = .ok (.iload_n 3, 1) := by decide +kernel
theorem dX4_nextBlock_22 : decode cX4_nextBlock 22 = .ok (.iadd, 1) := by decide +kernel
theorem dX4_nextBlock_23 : decode cX4_nextBlock 23 = .ok (.iaload, 1) := by decide +kernel
theorem dX4_nextBlock_24 : decode cX4_nextBlock 24 = .ok (.iaload, 1) := by decide +kernel
theorem dX4_nextBlock_25 : decode cX4_nextBlock 25 = .ok (.ireturn, 1) := by decide +kernel
set_option maxRecDepth 20000 in
theorem ggX4_isPermuted_X4_nextBlock : GoodIn wsX4_isPermuted wsX4_nextBlock := goodIn_r _ [8, 9, 10, 11, 12, 26, 27, 28, 29, 30, 31, 32, 33, 34, 35, 36, 37, 38, 13, 14, 15, 16, 17, 18, 19, 20, 21, 22, 23, 24, 25] (by decide +kernel) (by decide +kernel)
set_option maxRecDepth 20000 in
theorem gX4_isPermuted_X4_nextBlock : GoodIn wsX4_isPermuted (wsV RX4 96 RX4 yX4_nextBlock wsX4_nextBlock) := goodIn_app (goodIn_of _ (by decide +kernel)) ggX4_isPermuted_X4_nextBlock
theorem dX4_isPermuted_0 : decode cX4_isPermuted 0 = .ok (.iconst 0, 1) := by decide +kernel
theorem dX4_isPermuted_1 : decode cX4_isPermuted 1 = .ok (.istore_n 2, 1) := by decide +kernel
theorem dX4_isPermuted_2 : decode cX4_isPermuted 2 = .ok (.iload_n 2, 1) := by decide +kernel
theorem dX4_isPermuted_3 : decode cX4_isPermuted 3 = .ok (.aload_n 1, 1) := by decide +kernel
theorem dX4_isPermuted_4 : decode cX4_isPermuted 4 = .ok (.getfield 67, 3) := by decide +kernel
theorem dX4_isPermuted_7 : decode cX4_isPermuted 7 = .ok (.if_icmp .ge 78, 3) := by decide +kernel
theorem dX4_isPermuted_10 : decode cX4_isPermuted 10 = .ok (.iconst 0, 1) := by decide +kernel
theorem dX4_isPermuted_11 : decode cX4_isPermuted 11 = .ok (.istore_n 3, 1) := by decide +kernel
theorem dX4_isPermuted_12 : decode cX4_isPermuted 12 = .ok (.iload_n 3, 1) := by decide +kernel
theorem dX4_isPermuted_13 : decode cX4_isPermuted 13 = .ok (.aload_n 0, 1) := by decide +kernel
theorem dX4_isPermuted_14 : decode cX4_isPermuted 14 = .ok (.getfield 9, 3) := by decide +kernel
theorem dX4_isPermuted_17 : decode cX4_isPermuted 17 = .ok (.if_icmp .ge 16, 3) := by decide +kernel
theorem dX4_isPermuted_20 : decode cX4_isPermuted 20 = .ok (.aload_n 0, 1) := by decide +kernel
theorem dX4_isPermuted_21 : decode cX4_isPermuted 21 = .ok (.getfield 45, 3) := by decide +kernel
theorem dX4_isPermuted_24 : decode cX4_isPermuted 24 = .ok (.iload_n 3, 1) := by decide +kernel
theorem dX4_isPermuted_25 : decode cX4_isPermuted 25 = .ok (.iconst 0, 1) := by decide +kernel
theorem dX4_isPermuted_26 : decode cX4_isPermuted 26 = .ok (.iastore, 1) := by decide +kernel
theorem dX4_isPermuted_27 : decode cX4_isPermuted 27 = .ok (.iinc 3 1, 3) := by decide +kernel
theorem dX4_isPermuted_30 : decode cX4_isPermuted 30 = .ok (.goto (-18), 3) := by decide +kernel
theorem dX4_isPermuted_33 : decode cX4_isPermuted 33 = .ok (.iconst 0, 1) := by decide +kernel
theorem dX4_isPermuted_34 : decode cX4_isPermuted 34 = .ok (.istore_n 3, 1) := by decide +kernel
theorem dX4_isPermuted_35 : decode cX4_isPermuted 35 = .ok (.iload_n 3, 1) := by decide +kernel
theorem dX4_isPermuted_36 : decode cX4_isPermuted 36 = .ok (.aload_n 0, 1) := by decide +kernel
theorem dX4_isPermuted_37 : decode cX4_isPermuted 37 = .ok (.getfield 9, 3) := by decide +kernel
theorem dX4_isPermuted_40 : decode cX4_isPermuted 40 = .ok (.if_icmp .ge 39, 3) := by decide +kernel
theorem dX4_isPermuted_43 : decode cX4_isPermuted 43 = .ok (.aload_n 0, 1) := by decide +kernel
theorem dX4_isPermuted_44 : decode cX4_isPermuted 44 = .ok (.aload_n 1, 1) := by decide +kernel
theorem dX4_isPermuted_45 : decode cX4_isPermuted 45 = .ok (.iload_n 3, 1) := by decide +kernel
theorem dX4_isPermuted_46 : decode cX4_isPermuted 46 = .ok (.iload_n 2, 1) := by decide +kernel
theorem dX4_isPermuted_47 : decode cX4_isPermuted 47 = .ok (.invokevirtual 96, 3) := by decide +kernel
theorem dX4_isPermuted_50 : decode cX4_isPermuted 50 = .ok (.istore 4, 2) := by decide +kernel
theorem dX4_isPermuted_52 : decode cX4_isPermuted 52 = .ok (.aload_n 0, 1) := by decide +kernel
theorem dX4_isPermuted_53 : decode cX4_isPermuted 53 = .ok (.getfield 45, 3) := by decide +kernel
theorem dX4_isPermuted_56 : decode cX4_isPermuted 56 = .ok (.iload 4, 2) := by decide +kernel
theorem dX4_isPermuted_58 : decode cX4_isPermuted 58 = .ok (.iaload, 1) := by decide +kernel
theorem dX4_isPermuted_59 : decode cX4_isPermuted 59 = .ok (.iconst 1, 1) := by decide +kernel
theorem dX4_isPermuted_60 : decode cX4_isPermuted 60 = .ok (.if_icmp .ne 5, 3) := by decide +kernel
theorem dX4_isPermuted_63 : decode cX4_isPermuted 63 = .ok (.iconst 0, 1) := by decide +kernel
theorem dX4_isPermuted_64 : decode cX4_isPermuted 64 = .ok (.ireturn, 1) := by decide +kernel
theorem dX4_isPermuted_65 : decode cX4_isPermuted 65 = .ok (.aload_n 0, 1) := by decide +kernel
theorem dX4_isPermuted_66 : decode cX4_isPermuted 66 = .ok (.getfield 45, 3) := by decide +kernel
theorem dX4_isPermuted_69 : decode cX4_isPermuted 69 = .ok (.iload 4, 2) := by decide +kernel
theorem dX4_isPermuted_71 : decode cX4_isPermuted 71 = .ok (.iconst 1, 1) := by decide +kernel
theorem dX4_isPermuted_72 : decode cX4_isPermuted 72 = .ok (.iastore, 1) := by decide +kernel
theorem dX4_isPermuted_73 : decode cX4_isPermuted 73 = .ok (.iinc 3 1, 3) := by decide +kernel
theorem dX4_isPermuted_76 : decode cX4_isPermuted 76 = .ok (.goto (-41), 3) := by decide +kernel
theorem dX4_isPermuted_79 : decode cX4_isPermuted 79 = .ok (.iinc 2 1, 3) := by decide +kernel
theorem dX4_isPermuted_82 : decode cX4_isPermuted 82 = .ok (.goto (-80), 3) := by decide +kernel
theorem dX4_isPermuted_85 : decode cX4_isPermuted 85 = .ok (.iconst 1, 1) := by decide +kernel
theorem dX4_isPermuted_86 : decode cX4_isPermuted 86 = .ok (.ireturn, 1) := by decide +kernel
set_option maxRecDepth 20000 in
theorem ggX5_init_X1_init : GoodIn wsX5_init wsX1_init := goodIn_r _ [16, 17, 2, 3, 18, 19, 20, 32, 33] (by decide +kernel) (by decide +kernel)
set_option maxRecDepth 20000 in
theorem gX5_init_X1_init_n23 : GoodIn wsX5_init (wsX1_init) := ggX5_init_X1_init
set_option maxRecDepth 20000 in
theorem ggX5_init_X9_init : GoodIn wsX5_init wsX9_init := goodIn_r _ [22, 23, 2, 3, 24, 25, 26, 27, 34, 35, 36] (by decide +kernel) (by decide +kernel)
set_option maxRecDepth 20000 in
theorem gX5_init_X9_init_n34 : GoodIn wsX5_init (wsX9_init) := ggX5_init_X9_init
theorem dX5_init_0 : decode cX5_init 0 = .ok (.aload_n 0, 1) := by decide +kernel
theorem dX5_init_1 : decode cX5_init 1 = .ok (.invokespecial 3, 3) := by decide +kernel
theorem dX5_init_4 : decode cX5_init 4 = .ok (.aload_n 0, 1) := by decide +kernel
theorem dX5_init_5 : decode cX5_init 5 = .ok (.iconst 2, 1) := by decide +kernel
theorem dX5_init_6 : decode cX5_init 6 = .ok (.putfield 9, 3) := by decide +kernel
theorem dX5_init_9 : decode cX5_init 9 = .ok (.aload_n 0, 1) := by decide +kernel
theorem dX5_init_10 : decode cX5_init 10 = .ok (.iconst 3, 1) := by decide +kernel
theorem dX5_init_11 : decode cX5_init 11 = .ok (.anewarray 15, 3) := by decide +kernel
theorem dX5_init_14 : decode cX5_init 14 = .ok (.putfield 17, 3) := by decide +kernel
theorem dX5_init_17 : decode cX5_init 17 = .ok (.aload_n 0, 1) := by decide +kernel
theorem dX5_init_18 : decode cX5_init 18 = .ok (.new 21, 3) := by decide +kernel
theorem dX5_init_21 : decode cX5_init 21 = .ok (.dup, 1) := by decide +kernel
theorem dX5_init_22 : decode cX5_init 22 = .ok (.invokespecial 23, 3) := by decide +kernel
theorem dX5_init_25 : decode cX5_init 25 = .ok (.putfield 24, 3) := by decide +kernel
theorem dX5_init_28 : decode cX5_init 28 = .ok (.aload_n 0, 1) := by decide +kernel
theorem dX5_init_29 : decode cX5_init 29 = .ok (.iconst 4, 1) := by decide +kernel
theorem dX5_init_30 : decode cX5_init 30 = .ok (.anewarray 28, 3) := by decide +kernel
theorem dX5_init_33 : decode cX5_init 33 = .ok (.putfield 30, 3) := by decide +kernel
theorem dX5_init_36 : decode cX5_init 36 = .ok (.iconst 0, 1) := by decide +kernel
theorem dX5_init_37 : decode cX5_init 37 = .ok (.istore_n 1, 1) := by decide +kernel
theorem dX5_init_38 : decode cX5_init 38 = .ok (.iload_n 1, 1) := by decide +kernel
theorem dX5_init_39 : decode cX5_init 39 = .ok (.iconst 3, 1) := by decide +kernel
theorem dX5_init_40 : decode cX5_init 40 = .ok (.if_icmp .ge 22, 3) := by decide +kernel
theorem dX5_init_43 : decode cX5_init 43 = .ok (.aload_n 0, 1) := by decide +kernel
theorem dX5_init_44 : decode cX5_init 44 = .ok (.getfield 17, 3) := by decide +kernel
theorem dX5_init_47 : decode cX5_init 47 = .ok (.iload_n 1, 1) := by decide +kernel
theorem dX5_init_48 : decode cX5_init 48 = .ok (.new 15, 3) := by decide +kernel
theorem dX5_init_51 : decode cX5_init 51 = .ok (.dup, 1) := by decide +kernel
theorem dX5_init_52 : decode cX5_init 52 = .ok (.invokespecial 34, 3) := by decide +kernel
theorem dX5_init_55 : decode cX5_init 55 = .ok (.aastore, 1) := by decide +kernel
theorem dX5_init_56 : decode cX5_init 56 = .ok (.iinc 1 1, 3) := by decide +kernel
theorem dX5_init_59 : decode cX5_init 59 = .ok (.goto (-21), 3) := by decide +kernel
theorem dX5_init_62 : decode cX5_init 62 = .ok (.return_, 1) := by decide +kernel
theorem dX5_restart_0 : decode cX5_restart 0 = .ok (.aload_n 0, 1) := by decide +kernel
theorem dX5_restart_1 : decode cX5_restart 1 = .ok (.iload_n 1, 1) := by decide +kernel
theorem dX5_restart_2 : decode cX5_restart 2 = .ok (.putfield 9, 3) := by decide +kernel
theorem dX5_restart_5 : decode cX5_restart 5 = .ok (.aload_n 0, 1) := by decide +kernel
theorem dX5_restart_6 : decode cX5_restart 6 = .ok (.getfield 24, 3) := by decide +kernel
theorem dX5_restart_9 : decode cX5_restart 9 = .ok (.iconst 0, 1) := by decide +kernel
theorem dX5_restart_10 : decode cX5_restart 10 = .ok (.putfield 35, 3) := by decide +kernel
theorem dX5_restart_13 : decode cX5_restart 13 = .ok (.iconst 0, 1) := by decide +kernel
theorem dX5_restart_14 : decode cX5_restart 14 = .ok (.istore_n 2, 1) := by decide +kernel
theorem dX5_restart_15 : decode cX5_restart 15 = .ok (.iload_n 2, 1) := by decide +kernel
theorem dX5_restart_16 : decode cX5_restart 16 = .ok (.iconst 3, 1) := by decide +kernel
theorem dX5_restart_17 : decode cX5_restart 17 = .ok (.if_icmp .ge 19, 3) := by decide +kernel
theorem dX5_restart_20 : decode cX5_restart 20 = .ok (.aload_n 0, 1) := by decide +kernel
theorem dX5_restart_21 : decode cX5_restart 21 = .ok (.getfield 17, 3) := by decide +kernel
theorem dX5_restart_24 : decode cX5_restart 24 = .ok (.iload_n 2, 1) := by decide +kernel
theorem dX5_restart_25 : decode cX5_restart 25 = .ok (.aaload, 1) := by decide +kernel
theorem dX5_restart_26 : decode cX5_restart 26 = .ok (.iconst 0, 1) := by decide +kernel
theorem dX5_restart_27 : decode cX5_restart 27 = .ok (.putfield 38, 3) := by decide +kernel
theorem dX5_restart_30 : decode cX5_restart 30 = .ok (.iinc 2 1, 3) := by decide +kernel
theorem dX5_restart_33 : decode cX5_restart 33 = .ok (.goto (-18), 3) := by decide +kernel
theorem dX5_restart_36 : decode cX5_restart 36 = .ok (.iconst 0, 1) := by decide +kernel
theorem dX5_restart_37 : decode cX5_restart 37 = .ok (.istore_n 2, 1) := by decide +kernel
theorem dX5_restart_38 : decode cX5_restart 38 = .ok (.iload_n 2, 1) := by decide +kernel
theorem dX5_restart_39 : decode cX5_restart 39 = .ok (.iconst 4, 1) := by decide +kernel
theorem dX5_restart_40 : decode cX5_restart 40 = .ok (.if_icmp .ge 16, 3) := by decide +kernel
theorem dX5_restart_43 : decode cX5_restart 43 = .ok (.aload_n 0, 1) := by decide +kernel
theorem dX5_restart_44 : decode cX5_restart 44 = .ok (.getfield 30, 3) := by decide +kernel
theorem dX5_restart_47 : decode cX5_restart 47 = .ok (.iload_n 2, 1) := by decide +kernel
theorem dX5_restart_48 : decode cX5_restart 48 = .ok (.aconst_null, 1) := by decide +kernel
theorem dX5_restart_49 : decode cX5_restart 49 = .ok (.aastore, 1) := by decide +kernel
theorem dX5_restart_50 : decode cX5_restart 50 = .ok (.iinc 2 1, 3) := by decide +kernel
theorem dX5_restart_53 : decode cX5_restart 53 = .ok (.goto (-15), 3) := by decide +kernel
theorem dX5_restart_56 : decode cX5_restart 56 = .ok (.return_, 1) := by decide +kernel
set_option maxRecDepth 20000 in
theorem ggX5_copyFrom_X1_copyFrom : GoodIn wsX5_copyFrom wsX1_copyFrom := goodIn_r _ [13, 14, 15, 6, 7, 8, 16, 29, 30] (by decide +kernel) (by decide +kernel)
set_option maxRecDepth 20000 in
theorem gX5_copyFrom_X1_copyFrom : GoodIn wsX5_copyFrom (wsV RX5 41 RX1 yX1_copyFrom wsX1_copyFrom) := goodIn_app (goodIn_of _ (by decide +kernel)) ggX5_copyFrom_X1_copyFrom
set_option maxRecDepth 20000 in
theorem ggX5_copyFrom_X9_copyFrom : GoodIn wsX5_copyFrom wsX9_copyFrom := goodIn_r _ [21, 22, 23, 6, 7, 8, 24, 31, 32, 33] (by decide +kernel) (by decide +kernel)
set_option maxRecDepth 20000 in
theorem gX5_copyFrom_X9_copyFrom : GoodIn wsX5_copyFrom (wsV RX5 45 RX9 yX9_copyFrom wsX9_copyFrom) := goodIn_app (goodIn_of _ (by decide +kernel)) ggX5_copyFrom_X9_copyFrom
theorem dX5_copyFrom_0 : decode cX5_copyFrom 0 = .ok (.aload_n 0, 1) := by decide +kernel
theorem dX5_copyFrom_1 : decode cX5_copyFrom 1 = .ok (.aload_n 1, 1) := by decide +kernel
theorem dX5_copyFrom_2 : decode cX5_copyFrom 2 = .ok (.getfield 9, 3) := by decide +kernel
theorem dX5_copyFrom_5 : decode cX5_copyFrom 5 = .ok (.putfield 9, 3) := by decide +kernel
theorem dX5_copyFrom_8 : decode cX5_copyFrom 8 = .ok (.aload_n 0, 1) := by decide +kernel
theorem dX5_copyFrom_9 : decode cX5_copyFrom 9 = .ok (.getfield 24, 3) := by decide +kernel
theorem dX5_copyFrom_12 : decode cX5_copyFrom 12 = .ok (.aload_n 1, 1) := by decide +kernel
theorem dX5_copyFrom_13 : decode cX5_copyFrom 13 = .ok (.getfield 24, 3) := by decide +kernel
theorem dX5_copyFrom_16 : decode cX5_copyFrom 16 = .ok (.invokevirtual 41, 3) := by decide +kernel
theorem dX5_copyFrom_19 : decode cX5_copyFrom 19 = .ok (.iconst 0, 1) := by decide +kernel
theorem dX5_copyFrom_20 : decode cX5_copyFrom 20 = .ok (.istore_n 2, 1) := by decide +kernel
theorem dX5_copyFrom_21 : decode cX5_copyFrom 21 = .ok (.iload_n 2, 1) := by decide +kernel
theorem dX5_copyFrom_22 : decode cX5_copyFrom 22 = .ok (.iconst 3, 1) := by decide +kernel
theorem dX5_copyFrom_23 : decode cX5_copyFrom 23 = .ok (.if_icmp .ge 24, 3) := by decide +kernel
theorem dX5_copyFrom_26 : decode cX5_copyFrom 26 = .ok (.aload_n 0, 1) := by decide +kernel
theorem dX5_copyFrom_27 : decode cX5_copyFrom 27 = .ok (.getfield 17, 3) := by decide +kernel
theorem dX5_copyFrom_30 : decode cX5_copyFrom 30 = .ok (.iload_n 2, 1) := by decide +kernel
theorem dX5_copyFrom_31 : decode cX5_copyFrom 31 = .ok (.aaload, 1) := by decide +kernel
theorem dX5_copyFrom_32 : decode cX5_copyFrom 32 = .ok (.aload_n 1, 1) := by decide +kernel
theorem dX5_copyFrom_33 : decode cX5_copyFrom 33 = .ok (.getfield 17, 3) := by decide +kernel
theorem dX5_copyFrom_36 : decode cX5_copyFrom 36 = .ok (.iload_n 2, 1) := by decide +kernel
theorem dX5_copyFrom_37 : decode cX5_copyFrom 37 = .ok (.aaload, 1) := by decide +kernel
theorem dX5_copyFrom_38 : decode cX5_copyFrom 38 = .ok (.invokevirtual 45, 3) := by decide +kernel
theorem dX5_copyFrom_41 : decode cX5_copyFrom 41 = .ok (.iinc 2 1, 3) := by decide +kernel
theorem dX5_copyFrom_44 : decode cX5_copyFrom 44 = .ok (.goto (-23), 3) := by decide +kernel
theorem dX5_copyFrom_47 : decode cX5_copyFrom 47 = .ok (.aload_n 1, 1) := by decide +kernel
theorem dX5_copyFrom_48 : decode cX5_copyFrom 48 = .ok (.getfield 30, 3) := by decide +kernel
theorem dX5_copyFrom_51 : decode cX5_copyFrom 51 = .ok (.iconst 0, 1) := by decide +kernel
theorem dX5_copyFrom_52 : decode cX5_copyFrom 52 = .ok (.aload_n 0, 1) := by decide +kernel
theorem dX5_copyFrom_53 : decode cX5_copyFrom 53 = .ok (.getfield 30, 3) := by decide +kernel
theorem dX5_copyFrom_56 : decode cX5_copyFrom 56 = .ok (.iconst 0, 1) := by decide +kernel
theorem dX5_copyFrom_57 : decode cX5_copyFrom 57 = .ok (.iconst 4, 1) := by decide +kernel
theorem dX5_copyFrom_58 : decode cX5_copyFrom 58 = .ok (.invokestatic 48, 3) := by decide +kernel
theorem dX5_copyFrom_61 : decode cX5_copyFrom 61 = .ok (.return_, 1) := by decide +kernel
theorem dX5_languagesHeld_0 : decode cX5_languagesHeld 0 = .ok (.iconst 0, 1) := by decide +kernel
theorem dX5_languagesHeld_1 : decode cX5_languagesHeld 1 = .ok (.istore_n 1, 1) := by decide +kernel
theorem dX5_languagesHeld_2 : decode cX5_languagesHeld 2 = .ok (.iconst 0, 1) := by decide +kernel
theorem dX5_languagesHeld_3 : decode cX5_languagesHeld 3 = .ok (.istore_n 2, 1) := by decide +kernel
theorem dX5_languagesHeld_4 : decode cX5_languagesHeld 4 = .ok (.iload_n 2, 1) := by decide +kernel
theorem dX5_languagesHeld_5 : decode cX5_languagesHeld 5 = .ok (.iconst 4, 1) := by decide +kernel
theorem dX5_languagesHeld_6 : decode cX5_languagesHeld 6 = .ok (.if_icmp .ge 21, 3) := by decide +kernel
theorem dX5_languagesHeld_9 : decode cX5_languagesHeld 9 = .ok (.aload_n 0, 1) := by decide +kernel
theorem dX5_languagesHeld_10 : decode cX5_languagesHeld 10 = .ok (.getfield 30, 3) := by decide +kernel
theorem dX5_languagesHeld_13 : decode cX5_languagesHeld 13 = .ok (.iload_n 2, 1) := by decide +kernel
theorem dX5_languagesHeld_14 : decode cX5_languagesHeld 14 = .ok (.aaload, 1) := by decide +kernel
theorem dX5_languagesHeld_15 : decode cX5_languagesHeld 15 = .ok (.ifnull 6, 3) := by decide +kernel
theorem dX5_languagesHeld_18 : decode cX5_languagesHeld 18 = .ok (.iinc 1 1, 3) := by decide +kernel
theorem dX5_languagesHeld_21 : decode cX5_languagesHeld 21 = .ok (.iinc 2 1, 3) := by decide +kernel
theorem dX5_languagesHeld_24 : decode cX5_languagesHeld 24 = .ok (.goto (-20), 3) := by decide +kernel
theorem dX5_languagesHeld_27 : decode cX5_languagesHeld 27 = .ok (.iload_n 1, 1) := by decide +kernel
theorem dX5_languagesHeld_28 : decode cX5_languagesHeld 28 = .ok (.ireturn, 1) := by decide +kernel
theorem dX6_init_0 : decode cX6_init 0 = .ok (.aload_n 0, 1) := by decide +kernel
theorem dX6_init_1 : decode cX6_init 1 = .ok (.invokespecial 3, 3) := by decide +kernel
theorem dX6_init_4 : decode cX6_init 4 = .ok (.aload_n 0, 1) := by decide +kernel
theorem dX6_init_5 : decode cX6_init 5 = .ok (.iconst (-1), 1) := by decide +kernel
theorem dX6_init_6 : decode cX6_init 6 = .ok (.putfield 9, 3) := by decide +kernel
theorem dX6_init_9 : decode cX6_init 9 = .ok (.aload_n 0, 1) := by decide +kernel
theorem dX6_init_10 : decode cX6_init 10 = .ok (.iconst 0, 1) := by decide +kernel
theorem dX6_init_11 : decode cX6_init 11 = .ok (.putfield 15, 3) := by decide +kernel
theorem dX6_init_14 : decode cX6_init 14 = .ok (.aload_n 0, 1) := by decide +kernel
theorem dX6_init_15 : decode cX6_init 15 = .ok (.bipush 21, 2) := by decide +kernel
theorem dX6_init_17 : decode cX6_init 17 = .ok (.newarray .int, 2) := by decide +kernel
theorem dX6_init_19 : decode cX6_init 19 = .ok (.putfield 18, 3) := by decide +kernel
theorem dX6_init_22 : decode cX6_init 22 = .ok (.return_, 1) := by decide +kernel
set_option maxRecDepth 20000 in
theorem ggX6_restart_J7_fill_53178 : GoodIn wsX6_restart wsJ7_fill_53178 := goodIn_r _ [7] (by decide +kernel) (by decide +kernel)
set_option maxRecDepth 20000 in
theorem gX6_restart_J7_fill_53178 : GoodIn wsX6_restart (va_wsS RX6 22 yJ7_fill_53178 wsJ7_fill_53178) := goodIn_app (goodIn_of _ (by decide +kernel)) ggX6_restart_J7_fill_53178
theorem dX6_restart_0 : decode cX6_restart 0 = .ok (.aload_n 0, 1) := by decide +kernel
theorem dX6_restart_1 : decode cX6_restart 1 = .ok (.iload_n 1, 1) := by decide +kernel
theorem dX6_restart_2 : decode cX6_restart 2 = .ok (.putfield 9, 3) := by decide +kernel
theorem dX6_restart_5 : decode cX6_restart 5 = .ok (.aload_n 0, 1) := by decide +kernel
theorem dX6_restart_6 : decode cX6_restart 6 = .ok (.iload_n 2, 1) := by decide +kernel
theorem dX6_restart_7 : decode cX6_restart 7 = .ok (.putfield 15, 3) := by decide +kernel
theorem dX6_restart_10 : decode cX6_restart 10 = .ok (.aload_n 0, 1) := by decide +kernel
theorem dX6_restart_11 : decode cX6_restart 11 = .ok (.getfield 18, 3) := by decide +kernel
theorem dX6_restart_14 : decode cX6_restart 14 = .ok (.iconst 0, 1) := by decide +kernel
theorem dX6_restart_15 : decode cX6_restart 15 = .ok (.invokestatic 22, 3) := by decide +kernel
theorem dX6_restart_18 : decode cX6_restart 18 = .ok (.return_, 1) := by decide +kernel
theorem dX6_put_0 : decode cX6_put 0 = .ok (.aload_n 0, 1) := by decide +kernel
theorem dX6_put_1 : decode cX6_put 1 = .ok (.getfield 18, 3) := by decide +kernel
theorem dX6_put_4 : decode cX6_put 4 = .ok (.iload_n 1, 1) := by decide +kernel
theorem dX6_put_5 : decode cX6_put 5 = .ok (.aload_n 0, 1) := by decide +kernel
theorem dX6_put_6 : decode cX6_put 6 = .ok (.getfield 9, 3) := by decide +kernel
theorem dX6_put_9 : decode cX6_put 9 = .ok (.ifCond .ne 8, 3) := by decide +kernel
theorem dX6_put_12 : decode cX6_put 12 = .ok (.iload_n 2, 1) := by decide +kernel
theorem dX6_put_13 : decode cX6_put 13 = .ok (.i2s, 1) := by decide +kernel
theorem dX6_put_14 : decode cX6_put 14 = .ok (.goto 4, 3) := by decide +kernel
theorem dX6_put_17 : decode cX6_put 17 = .ok (.iload_n 2, 1) := by decide +kernel
theorem dX6_put_18 : decode cX6_put 18 = .ok (.iastore, 1) := by decide +kernel
theorem dX6_put_19 : decode cX6_put 19 = .ok (.return_, 1) := by decide +kernel
theorem dX6_hasRange_0 : decode cX6_hasRange 0 = .ok (.iload_n 2, 1) := by decide +kernel
theorem dX6_hasRange_1 : decode cX6_hasRange 1 = .ok (.ifCond .lt 29, 3) := by decide +kernel
theorem dX6_hasRange_4 : decode cX6_hasRange 4 = .ok (.iload_n 2, 1) := by decide +kernel
theorem dX6_hasRange_5 : decode cX6_hasRange 5 = .ok (.aload_n 0, 1) := by decide +kernel
theorem dX6_hasRange_6 : decode cX6_hasRange 6 = .ok (.getfield 15, 3) := by decide +kernel
theorem dX6_hasRange_9 : decode cX6_hasRange 9 = .ok (.if_icmp .gt 21, 3) := by decide +kernel
theorem dX6_hasRange_12 : decode cX6_hasRange 12 = .ok (.iload_n 1, 1) := by decide +kernel
theorem dX6_hasRange_13 : decode cX6_hasRange 13 = .ok (.ifCond .lt 17, 3) := by decide +kernel
theorem dX6_hasRange_16 : decode cX6_hasRange 16 = .ok (.iload_n 1, 1) := by decide +kernel
theorem dX6_hasRange_17 : decode cX6_hasRange 17 = .ok (.aload_n 0, 1) := by decide +kernel
theorem dX6_hasRange_18 : decode cX6_hasRange 18 = .ok (.getfield 15, 3) := by decide +kernel
theorem dX6_hasRange_21 : decode cX6_hasRange 21 = .ok (.iload_n 2, 1) := by decide +kernel
theorem dX6_hasRange_22 : decode cX6_hasRange 22 = .ok (.isub, 1) := by decide +kernel
theorem dX6_hasRange_23 : decode cX6_hasRange 23 = .ok (.if_icmp .gt 7, 3) := by decide +kernel
theorem dX6_hasRange_26 : decode cX6_hasRange 26 = .ok (.iconst 1, 1) := by decide +kernel
theorem dX6_hasRange_27 : decode cX6_hasRange 27 = .ok (.goto 4, 3) := by decide +kernel
theorem dX6_hasRange_30 : decode cX6_hasRange 30 = .ok (.iconst 0, 1) := by decide +kernel
theorem dX6_hasRange_31 : decode cX6_hasRange 31 = .ok (.ireturn, 1) := by decide +kernel
set_option maxRecDepth 20000 in
theorem ggX7_errorAt_X7_headLength : GoodIn wsX7_errorAt wsX7_headLength := goodIn_r _ [4] (by decide +kernel) (by decide +kernel)
set_option maxRecDepth 20000 in
theorem gX7_errorAt_X7_headLength : GoodIn wsX7_errorAt (va_wsS RX7 9 yX7_headLength wsX7_headLength) := goodIn_app (goodIn_of _ (by decide +kernel)) ggX7_errorAt_X7_headLength
set_option maxRecDepth 20000 in
theorem ggX7_errorAt_X7_isSign : GoodIn wsX7_errorAt wsX7_isSign := goodIn_r _ [7] (by decide +kernel) (by decide +kernel)
set_option maxRecDepth 20000 in
theorem gX7_errorAt_X7_isSign : GoodIn wsX7_errorAt (va_wsS RX7 15 yX7_isSign wsX7_isSign) := goodIn_app (goodIn_of _ (by decide +kernel)) ggX7_errorAt_X7_isSign
set_option maxRecDepth 20000 in
theorem ggX7_errorAt_X7_isLimit : GoodIn wsX7_errorAt wsX7_isLimit := goodIn_r _ [10] (by decide +kernel) (by decide +kernel)
set_option maxRecDepth 20000 in
theorem gX7_errorAt_X7_isLimit : GoodIn wsX7_errorAt (va_wsS RX7 19 yX7_isLimit wsX7_isLimit) := goodIn_app (goodIn_of _ (by decide +kernel)) ggX7_errorAt_X7_isLimit
theorem dX7_errorAt_0 : decode cX7_errorAt 0 = .ok (.aload_n 0, 1) := by decide +kernel
theorem dX7_errorAt_1 : decode cX7_errorAt 1 = .ok (.iload_n 1, 1) := by decide +kernel
theorem dX7_errorAt_2 : decode cX7_errorAt 2 = .ok (.iload_n 2, 1) := by decide +kernel
theorem dX7_errorAt_3 : decode cX7_errorAt 3 = .ok (.invokestatic 9, 3) := by decide +kernel
theorem dX7_errorAt_6 : decode cX7_errorAt 6 = .ok (.istore_n 3, 1) := by decide +kernel
theorem dX7_errorAt_7 : decode cX7_errorAt 7 = .ok (.iload_n 3, 1) := by decide +kernel
theorem dX7_errorAt_8 : decode cX7_errorAt 8 = .ok (.ifCond .eq 20, 3) := by decide +kernel
theorem dX7_errorAt_11 : decode cX7_errorAt 11 = .ok (.iload_n 3, 1) := by decide +kernel
theorem dX7_errorAt_12 : decode cX7_errorAt 12 = .ok (.iload_n 1, 1) := by decide +kernel
theorem dX7_errorAt_13 : decode cX7_errorAt 13 = .ok (.if_icmp .ge 15, 3) := by decide +kernel
theorem dX7_errorAt_16 : decode cX7_errorAt 16 = .ok (.aload_n 0, 1) := by decide +kernel
theorem dX7_errorAt_17 : decode cX7_errorAt 17 = .ok (.iconst 0, 1) := by decide +kernel
theorem dX7_errorAt_18 : decode cX7_errorAt 18 = .ok (.iaload, 1) := by decide +kernel
theorem dX7_errorAt_19 : decode cX7_errorAt 19 = .ok (.aload_n 0, 1) := by decide +kernel
theorem dX7_errorAt_20 : decode cX7_errorAt 20 = .ok (.iload_n 3, 1) := by decide +kernel
theorem dX7_errorAt_21 : decode cX7_errorAt 21 = .ok (.iaload, 1) := by decide +kernel
theorem dX7_errorAt_22 : decode cX7_errorAt 22 = .ok (.invokestatic 15, 3) := by decide +kernel
theorem dX7_errorAt_25 : decode cX7_errorAt 25 = .ok (.ifCond .ne 5, 3) := by decide +kernel
theorem dX7_errorAt_28 : decode cX7_errorAt 28 = .ok (.iload_n 3, 1) := by decide +kernel
theorem dX7_errorAt_29 : decode cX7_errorAt 29 = .ok (.ireturn, 1) := by decide +kernel
theorem dX7_errorAt_30 : decode cX7_errorAt 30 = .ok (.iload_n 3, 1) := by decide +kernel
theorem dX7_errorAt_31 : decode cX7_errorAt 31 = .ok (.iconst 1, 1) := by decide +kernel
theorem dX7_errorAt_32 : decode cX7_errorAt 32 = .ok (.iadd, 1) := by decide +kernel
theorem dX7_errorAt_33 : decode cX7_errorAt 33 = .ok (.istore 4, 2) := by decide +kernel
theorem dX7_errorAt_35 : decode cX7_errorAt 35 = .ok (.iload 4, 2) := by decide +kernel
theorem dX7_errorAt_37 : decode cX7_errorAt 37 = .ok (.iload_n 1, 1) := by decide +kernel
theorem dX7_errorAt_38 : decode cX7_errorAt 38 = .ok (.if_icmp .ge 16, 3) := by decide +kernel
theorem dX7_errorAt_41 : decode cX7_errorAt 41 = .ok (.aload_n 0, 1) := by decide +kernel
theorem dX7_errorAt_42 : decode cX7_errorAt 42 = .ok (.iload_n 3, 1) := by decide +kernel
theorem dX7_errorAt_43 : decode cX7_errorAt 43 = .ok (.iaload, 1) := by decide +kernel
theorem dX7_errorAt_44 : decode cX7_errorAt 44 = .ok (.aload_n 0, 1) := by decide +kernel
theorem dX7_errorAt_45 : decode cX7_errorAt 45 = .ok (.iload 4, 2) := by decide +kernel
theorem dX7_errorAt_47 : decode cX7_errorAt 47 = .ok (.iaload, 1) := by decide +kernel
theorem dX7_errorAt_48 : decode cX7_errorAt 48 = .ok (.invokestatic 19, 3) := by decide +kernel
theorem dX7_errorAt_51 : decode cX7_errorAt 51 = .ok (.ifCond .ne 6, 3) := by decide +kernel
theorem dX7_errorAt_54 : decode cX7_errorAt 54 = .ok (.iload 4, 2) := by decide +kernel
theorem dX7_errorAt_56 : decode cX7_errorAt 56 = .ok (.ireturn, 1) := by decide +kernel
theorem dX7_errorAt_57 : decode cX7_errorAt 57 = .ok (.iload 4, 2) := by decide +kernel
theorem dX7_errorAt_59 : decode cX7_errorAt 59 = .ok (.iconst 1, 1) := by decide +kernel
theorem dX7_errorAt_60 : decode cX7_errorAt 60 = .ok (.iadd, 1) := by decide +kernel
theorem dX7_errorAt_61 : decode cX7_errorAt 61 = .ok (.iload_n 1, 1) := by decide +kernel
theorem dX7_errorAt_62 : decode cX7_errorAt 62 = .ok (.if_icmp .ge 10, 3) := by decide +kernel
theorem dX7_errorAt_65 : decode cX7_errorAt 65 = .ok (.iload 4, 2) := by decide +kernel
theorem dX7_errorAt_67 : decode cX7_errorAt 67 = .ok (.iconst 1, 1) := by decide +kernel
theorem dX7_errorAt_68 : decode cX7_errorAt 68 = .ok (.iadd, 1) := by decide +kernel
theorem dX7_errorAt_69 : decode cX7_errorAt 69 = .ok (.goto 4, 3) := by decide +kernel
theorem dX7_errorAt_72 : decode cX7_errorAt 72 = .ok (.iconst (-1), 1) := by decide +kernel
theorem dX7_errorAt_73 : decode cX7_errorAt 73 = .ok (.ireturn, 1) := by decide +kernel
set_option maxRecDepth 20000 in
theorem ggX7_read_X8_init : GoodIn wsX7_read wsX8_init := goodIn_r _ [7, 8, 9, 10, 11, 12, 13, 14, 15, 16, 17, 18, 19, 20] (by decide +kernel) (by decide +kernel)
set_option maxRecDepth 20000 in
theorem gX7_read_X8_init : GoodIn wsX7_read (wsX8_init) := ggX7_read_X8_init
theorem dX7_read_0 : decode cX7_read 0 = .ok (.aload_n 0, 1) := by decide +kernel
theorem dX7_read_1 : decode cX7_read 1 = .ok (.iload_n 1, 1) := by decide +kernel
theorem dX7_read_2 : decode cX7_read 2 = .ok (.iconst 1, 1) := by decide +kernel
theorem dX7_read_3 : decode cX7_read 3 = .ok (.isub, 1) := by decide +kernel
theorem dX7_read_4 : decode cX7_read 4 = .ok (.iaload, 1) := by decide +kernel
theorem dX7_read_5 : decode cX7_read 5 = .ok (.bipush 48, 2) := by decide +kernel
theorem dX7_read_7 : decode cX7_read 7 = .ok (.isub, 1) := by decide +kernel
theorem dX7_read_8 : decode cX7_read 8 = .ok (.istore_n 2, 1) := by decide +kernel
theorem dX7_read_9 : decode cX7_read 9 = .ok (.aload_n 0, 1) := by decide +kernel
theorem dX7_read_10 : decode cX7_read 10 = .ok (.iconst 0, 1) := by decide +kernel
theorem dX7_read_11 : decode cX7_read 11 = .ok (.iaload, 1) := by decide +kernel
theorem dX7_read_12 : decode cX7_read 12 = .ok (.bipush 35, 2) := by decide +kernel
theorem dX7_read_14 : decode cX7_read 14 = .ok (.if_icmp .ne 16, 3) := by decide +kernel
theorem dX7_read_17 : decode cX7_read 17 = .ok (.new 22, 3) := by decide +kernel
theorem dX7_read_20 : decode cX7_read 20 = .ok (.dup, 1) := by decide +kernel
theorem dX7_read_21 : decode cX7_read 21 = .ok (.iconst 1, 1) := by decide +kernel
theorem dX7_read_22 : decode cX7_read 22 = .ok (.iload_n 2, 1) := by decide +kernel
theorem dX7_read_23 : decode cX7_read 23 = .ok (.iconst 0, 1) := by decide +kernel
theorem dX7_read_24 : decode cX7_read 24 = .ok (.newarray .int, 2) := by decide +kernel
theorem dX7_read_26 : decode cX7_read 26 = .ok (.invokespecial 24, 3) := by decide +kernel
theorem dX7_read_29 : decode cX7_read 29 = .ok (.areturn, 1) := by decide +kernel
theorem dX7_read_30 : decode cX7_read 30 = .ok (.iload_n 1, 1) := by decide +kernel
theorem dX7_read_31 : decode cX7_read 31 = .ok (.iconst 2, 1) := by decide +kernel
theorem dX7_read_32 : decode cX7_read 32 = .ok (.isub, 1) := by decide +kernel
theorem dX7_read_33 : decode cX7_read 33 = .ok (.newarray .int, 2) := by decide +kernel
theorem dX7_read_35 : decode cX7_read 35 = .ok (.astore_n 3, 1) := by decide +kernel
theorem dX7_read_36 : decode cX7_read 36 = .ok (.iconst 0, 1) := by decide +kernel
theorem dX7_read_37 : decode cX7_read 37 = .ok (.istore 4, 2) := by decide +kernel
theorem dX7_read_39 : decode cX7_read 39 = .ok (.iload 4, 2) := by decide +kernel
theorem dX7_read_41 : decode cX7_read 41 = .ok (.aload_n 3, 1) := by decide +kernel
theorem dX7_read_42 : decode cX7_read 42 = .ok (.arraylength, 1) := by decide +kernel
theorem dX7_read_43 : decode cX7_read 43 = .ok (.if_icmp .ge 20, 3) := by decide +kernel
theorem dX7_read_46 : decode cX7_read 46 = .ok (.aload_n 3, 1) := by decide +kernel
theorem dX7_read_47 : decode cX7_read 47 = .ok (.iload 4, 2) := by decide +kernel
theorem dX7_read_49 : decode cX7_read 49 = .ok (.aload_n 0, 1) := by decide +kernel
theorem dX7_read_50 : decode cX7_read 50 = .ok (.iload 4, 2) := by decide +kernel
theorem dX7_read_52 : decode cX7_read 52 = .ok (.iaload, 1) := by decide +kernel
theorem dX7_read_53 : decode cX7_read 53 = .ok (.bipush 97, 2) := by decide +kernel
theorem dX7_read_55 : decode cX7_read 55 = .ok (.isub, 1) := by decide +kernel
theorem dX7_read_56 : decode cX7_read 56 = .ok (.iastore, 1) := by decide +kernel
theorem dX7_read_57 : decode cX7_read 57 = .ok (.iinc 4 1, 3) := by decide +kernel
theorem dX7_read_60 : decode cX7_read 60 = .ok (.goto (-21), 3) := by decide +kernel
theorem dX7_read_63 : decode cX7_read 63 = .ok (.new 22, 3) := by decide +kernel
theorem dX7_read_66 : decode cX7_read 66 = .ok (.dup, 1) := by decide +kernel
theorem dX7_read_67 : decode cX7_read 67 = .ok (.aload_n 0, 1) := by decide +kernel
theorem dX7_read_68 : decode cX7_read 68 = .ok (.iload_n 1, 1) := by decide +kernel
theorem dX7_read_69 : decode cX7_read 69 = .ok (.iconst 2, 1) := by decide +kernel
theorem dX7_read_70 : decode cX7_read 70 = .ok (.isub, 1) := by decide +kernel
theorem dX7_read_71 : decode cX7_read 71 = .ok (.iaload, 1) := by decide +kernel
theorem dX7_read_72 : decode cX7_read 72 = .ok (.bipush 37, 2) := by decide +kernel
theorem dX7_read_74 : decode cX7_read 74 = .ok (.if_icmp .ne 7, 3) := by decide +kernel
theorem dX7_read_77 : decode cX7_read 77 = .ok (.iconst 0, 1) := by decide +kernel
theorem dX7_read_78 : decode cX7_read 78 = .ok (.goto 4, 3) := by decide +kernel
theorem dX7_read_81 : decode cX7_read 81 = .ok (.iconst 2, 1) := by decide +kernel
theorem dX7_read_82 : decode cX7_read 82 = .ok (.iload_n 2, 1) := by decide +kernel
theorem dX7_read_83 : decode cX7_read 83 = .ok (.aload_n 3, 1) := by decide +kernel
theorem dX7_read_84 : decode cX7_read 84 = .ok (.invokespecial 24, 3) := by decide +kernel
theorem dX7_read_87 : decode cX7_read 87 = .ok (.areturn, 1) := by decide +kernel
theorem dX7_headLength_0 : decode cX7_headLength 0 = .ok (.iload_n 1, 1) := by decide +kernel
theorem dX7_headLength_1 : decode cX7_headLength 1 = .ok (.ifCond .le 13, 3) := by decide +kernel
theorem dX7_headLength_4 : decode cX7_headLength 4 = .ok (.aload_n 0, 1) := by decide +kernel
theorem dX7_headLength_5 : decode cX7_headLength 5 = .ok (.iconst 0, 1) := by decide +kernel
theorem dX7_headLength_6 : decode cX7_headLength 6 = .ok (.iaload, 1) := by decide +kernel
theorem dX7_headLength_7 : decode cX7_headLength 7 = .ok (.bipush 35, 2) := by decide +kernel
theorem dX7_headLength_9 : decode cX7_headLength 9 = .ok (.if_icmp .ne 5, 3) := by decide +kernel
theorem dX7_headLength_12 : decode cX7_headLength 12 = .ok (.iconst 1, 1) := by decide +kernel
theorem dX7_headLength_13 : decode cX7_headLength 13 = .ok (.ireturn, 1) := by decide +kernel
theorem dX7_headLength_14 : decode cX7_headLength 14 = .ok (.iconst 0, 1) := by decide +kernel
theorem dX7_headLength_15 : decode cX7_headLength 15 = .ok (.istore_n 3, 1) := by decide +kernel
theorem dX7_headLength_16 : decode cX7_headLength 16 = .ok (.iconst 0, 1) := by decide +kernel
theorem dX7_headLength_17 : decode cX7_headLength 17 = .ok (.istore 4, 2) := by decide +kernel
theorem dX7_headLength_19 : decode cX7_headLength 19 = .ok (.iload 4, 2) := by decide +kernel
theorem dX7_headLength_21 : decode cX7_headLength 21 = .ok (.iload_n 1, 1) := by decide +kernel
theorem dX7_headLength_22 : decode cX7_headLength 22 = .ok (.if_icmp .ge 40, 3) := by decide +kernel
theorem dX7_headLength_25 : decode cX7_headLength 25 = .ok (.iload 4, 2) := by decide +kernel
theorem dX7_headLength_27 : decode cX7_headLength 27 = .ok (.iconst 4, 1) := by decide +kernel
theorem dX7_headLength_28 : decode cX7_headLength 28 = .ok (.if_icmp .ge 34, 3) := by decide +kernel
theorem dX7_headLength_31 : decode cX7_headLength 31 = .ok (.aload_n 0, 1) := by decide +kernel
theorem dX7_headLength_32 : decode cX7_headLength 32 = .ok (.iload 4, 2) := by decide +kernel
theorem dX7_headLength_34 : decode cX7_headLength 34 = .ok (.iaload, 1) := by decide +kernel
theorem dX7_headLength_35 : decode cX7_headLength 35 = .ok (.bipush 97, 2) := by decide +kernel
theorem dX7_headLength_37 : decode cX7_headLength 37 = .ok (.if_icmp .lt 14, 3) := by decide +kernel
theorem dX7_headLength_40 : decode cX7_headLength 40 = .ok (.aload_n 0, 1) := by decide +kernel
theorem dX7_headLength_41 : decode cX7_headLength 41 = .ok (.iload 4, 2) := by decide +kernel
theorem dX7_headLength_43 : decode cX7_headLength 43 = .ok (.iaload, 1) := by decide +kernel
theorem dX7_headLength_44 : decode cX7_headLength 44 = .ok (.bipush 97, 2) := by decide +kernel
theorem dX7_headLength_46 : decode cX7_headLength 46 = .ok (.iload_n 2, 1) := by decide +kernel
theorem dX7_headLength_47 : decode cX7_headLength 47 = .ok (.iadd, 1) := by decide +kernel
theorem dX7_headLength_48 : decode cX7_headLength 48 = .ok (.if_icmp .lt 5, 3) := by decide +kernel
theorem dX7_headLength_51 : decode cX7_headLength 51 = .ok (.iload_n 3, 1) := by decide +kernel
theorem dX7_headLength_52 : decode cX7_headLength 52 = .ok (.ireturn, 1) := by decide +kernel
theorem dX7_headLength_53 : decode cX7_headLength 53 = .ok (.iinc 3 1, 3) := by decide +kernel
theorem dX7_headLength_56 : decode cX7_headLength 56 = .ok (.iinc 4 1, 3) := by decide +kernel
theorem dX7_headLength_59 : decode cX7_headLength 59 = .ok (.goto (-40), 3) := by decide +kernel
theorem dX7_headLength_62 : decode cX7_headLength 62 = .ok (.iload_n 3, 1) := by decide +kernel
theorem dX7_headLength_63 : decode cX7_headLength 63 = .ok (.ireturn, 1) := by decide +kernel
theorem dX7_isSign_0 : decode cX7_isSign 0 = .ok (.iload_n 1, 1) := by decide +kernel
theorem dX7_isSign_1 : decode cX7_isSign 1 = .ok (.bipush 37, 2) := by decide +kernel
theorem dX7_isSign_3 : decode cX7_isSign 3 = .ok (.if_icmp .eq 15, 3) := by decide +kernel
theorem dX7_isSign_6 : decode cX7_isSign 6 = .ok (.iload_n 1, 1) := by decide +kernel
theorem dX7_isSign_7 : decode cX7_isSign 7 = .ok (.bipush 94, 2) := by decide +kernel
theorem dX7_isSign_9 : decode cX7_isSign 9 = .ok (.if_icmp .ne 13, 3) := by decide +kernel
theorem dX7_isSign_12 : decode cX7_isSign 12 = .ok (.iload_n 0, 1) := by decide +kernel
theorem dX7_isSign_13 : decode cX7_isSign 13 = .ok (.bipush 35, 2) := by decide +kernel
theorem dX7_isSign_15 : decode cX7_isSign 15 = .ok (.if_icmp .eq 7, 3) := by decide +kernel
theorem dX7_isSign_18 : decode cX7_isSign 18 = .ok (.iconst 1, 1) := by decide +kernel
theorem dX7_isSign_19 : decode cX7_isSign 19 = .ok (.goto 4, 3) := by decide +kernel
theorem dX7_isSign_22 : decode cX7_isSign 22 = .ok (.iconst 0, 1) := by decide +kernel
theorem dX7_isSign_23 : decode cX7_isSign 23 = .ok (.ireturn, 1) := by decide +kernel
theorem dX7_isLimit_0 : decode cX7_isLimit 0 = .ok (.iload_n 1, 1) := by decide +kernel
theorem dX7_isLimit_1 : decode cX7_isLimit 1 = .ok (.iload_n 0, 1) := by decide +kernel
theorem dX7_isLimit_2 : decode cX7_isLimit 2 = .ok (.bipush 37, 2) := by decide +kernel
theorem dX7_isLimit_4 : decode cX7_isLimit 4 = .ok (.if_icmp .ne 8, 3) := by decide +kernel
theorem dX7_isLimit_7 : decode cX7_isLimit 7 = .ok (.bipush 50, 2) := by decide +kernel
theorem dX7_isLimit_9 : decode cX7_isLimit 9 = .ok (.goto 5, 3) := by decide +kernel
theorem dX7_isLimit_12 : decode cX7_isLimit 12 = .ok (.bipush 49, 2) := by decide +kernel
theorem dX7_isLimit_14 : decode cX7_isLimit 14 = .ok (.if_icmp .lt 13, 3) := by decide +kernel
theorem dX7_isLimit_17 : decode cX7_isLimit 17 = .ok (.iload_n 1, 1) := by decide +kernel
theorem dX7_isLimit_18 : decode cX7_isLimit 18 = .ok (.bipush 57, 2) := by decide +kernel
theorem dX7_isLimit_20 : decode cX7_isLimit 20 = .ok (.if_icmp .gt 7, 3) := by decide +kernel
theorem dX7_isLimit_23 : decode cX7_isLimit 23 = .ok (.iconst 1, 1) := by decide +kernel
theorem dX7_isLimit_24 : decode cX7_isLimit 24 = .ok (.goto 4, 3) := by decide +kernel
theorem dX7_isLimit_27 : decode cX7_isLimit 27 = .ok (.iconst 0, 1) := by decide +kernel
theorem dX7_isLimit_28 : decode cX7_isLimit 28 = .ok (.ireturn, 1) := by decide +kernel
theorem dX8_init_0 : decode cX8_init 0 = .ok (.aload_n 0, 1) := by decide +kernel
theorem dX8_init_1 : decode cX8_init 1 = .ok (.invokespecial 3, 3) := by decide +kernel
theorem dX8_init_4 : decode cX8_init 4 = .ok (.aload_n 0, 1) := by decide +kernel
theorem dX8_init_5 : decode cX8_init 5 = .ok (.iload_n 1, 1) := by decide +kernel
theorem dX8_init_6 : decode cX8_init 6 = .ok (.putfield 9, 3) := by decide +kernel
theorem dX8_init_9 : decode cX8_init 9 = .ok (.aload_n 0, 1) := by decide +kernel
theorem dX8_init_10 : decode cX8_init 10 = .ok (.iload_n 2, 1) := by decide +kernel
theorem dX8_init_11 : decode cX8_init 11 = .ok (.putfield 15, 3) := by decide +kernel
theorem dX8_init_14 : decode cX8_init 14 = .ok (.aload_n 0, 1) := by decide +kernel
theorem dX8_init_15 : decode cX8_init 15 = .ok (.iload_n 1, 1) := by decide +kernel
theorem dX8_init_16 : decode cX8_init 16 = .ok (.iconst 2, 1) := by decide +kernel
theorem dX8_init_17 : decode cX8_init 17 = .ok (.if_icmp .ne 9, 3) := by decide +kernel
theorem dX8_init_20 : decode cX8_init 20 = .ok (.iload_n 2, 1) := by decide +kernel
theorem dX8_init_21 : decode cX8_init 21 = .ok (.iconst 1, 1) := by decide +kernel
theorem dX8_init_22 : decode cX8_init 22 = .ok (.iadd, 1) := by decide +kernel
theorem dX8_init_23 : decode cX8_init 23 = .ok (.goto 4, 3) := by decide +kernel
theorem dX8_init_26 : decode cX8_init 26 = .ok (.iload_n 2, 1) := by decide +kernel
theorem dX8_init_27 : decode cX8_init 27 = .ok (.putfield 18, 3) := by decide +kernel
theorem dX8_init_30 : decode cX8_init 30 = .ok (.aload_n 0, 1) := by decide +kernel
theorem dX8_init_31 : decode cX8_init 31 = .ok (.aload_n 3, 1) := by decide +kernel
theorem dX8_init_32 : decode cX8_init 32 = .ok (.arraylength, 1) := by decide +kernel
theorem dX8_init_33 : decode cX8_init 33 = .ok (.putfield 21, 3) := by decide +kernel
theorem dX8_init_36 : decode cX8_init 36 = .ok (.aload_n 0, 1) := by decide +kernel
theorem dX8_init_37 : decode cX8_init 37 = .ok (.aload_n 3, 1) := by decide +kernel
theorem dX8_init_38 : decode cX8_init 38 = .ok (.putfield 24, 3) := by decide +kernel
theorem dX8_init_41 : decode cX8_init 41 = .ok (.return_, 1) := by decide +kernel
set_option maxRecDepth 20000 in
theorem ggX8_step_X8_bounded : GoodIn wsX8_step wsX8_bounded := goodIn_r _ [8, 1, 9, 10, 11, 12, 13, 14, 15, 16, 17, 18] (by decide +kernel) (by decide +kernel)
set_option maxRecDepth 20000 in
theorem gX8_step_X8_bounded : GoodIn wsX8_step (wsV RX8 28 RX8 yX8_bounded wsX8_bounded) := goodIn_app (goodIn_of _ (by decide +kernel)) ggX8_step_X8_bounded
theorem dX8_step_0 : decode cX8_step 0 = .ok (.aload_n 0, 1) := by decide +kernel
theorem dX8_step_1 : decode cX8_step 1 = .ok (.getfield 9, 3) := by decide +kernel
theorem dX8_step_4 : decode cX8_step 4 = .ok (.iconst 1, 1) := by decide +kernel
theorem dX8_step_5 : decode cX8_step 5 = .ok (.if_icmp .ne 11, 3) := by decide +kernel
theorem dX8_step_8 : decode cX8_step 8 = .ok (.aload_n 0, 1) := by decide +kernel
theorem dX8_step_9 : decode cX8_step 9 = .ok (.iload_n 1, 1) := by decide +kernel
theorem dX8_step_10 : decode cX8_step 10 = .ok (.iconst 1, 1) := by decide +kernel
theorem dX8_step_11 : decode cX8_step 11 = .ok (.iadd, 1) := by decide +kernel
theorem dX8_step_12 : decode cX8_step 12 = .ok (.invokevirtual 28, 3) := by decide +kernel
theorem dX8_step_15 : decode cX8_step 15 = .ok (.ireturn, 1) := by decide +kernel
theorem dX8_step_16 : decode cX8_step 16 = .ok (.iload_n 1, 1) := by decide +kernel
theorem dX8_step_17 : decode cX8_step 17 = .ok (.istore_n 3, 1) := by decide +kernel
theorem dX8_step_18 : decode cX8_step 18 = .ok (.iconst 1, 1) := by decide +kernel
theorem dX8_step_19 : decode cX8_step 19 = .ok (.istore 4, 2) := by decide +kernel
theorem dX8_step_21 : decode cX8_step 21 = .ok (.iconst 0, 1) := by decide +kernel
theorem dX8_step_22 : decode cX8_step 22 = .ok (.istore 5, 2) := by decide +kernel
theorem dX8_step_24 : decode cX8_step 24 = .ok (.iload 5, 2) := by decide +kernel
theorem dX8_step_26 : decode cX8_step 26 = .ok (.aload_n 0, 1) := by decide +kernel
theorem dX8_step_27 : decode cX8_step 27 = .ok (.getfield 21, 3) := by decide +kernel
theorem dX8_step_30 : decode cX8_step 30 = .ok (.if_icmp .ge 62, 3) := by decide +kernel
theorem dX8_step_33 : decode cX8_step 33 = .ok (.iload_n 1, 1) := by decide +kernel
theorem dX8_step_34 : decode cX8_step 34 = .ok (.iconst 4, 1) := by decide +kernel
theorem dX8_step_35 : decode cX8_step 35 = .ok (.iload 5, 2) := by decide +kernel
theorem dX8_step_37 : decode cX8_step 37 = .ok (.imul, 1) := by decide +kernel
theorem dX8_step_38 : decode cX8_step 38 = .ok (.iushr, 1) := by decide +kernel
theorem dX8_step_39 : decode cX8_step 39 = .ok (.bipush 15, 2) := by decide +kernel
theorem dX8_step_41 : decode cX8_step 41 = .ok (.iand, 1) := by decide +kernel
theorem dX8_step_42 : decode cX8_step 42 = .ok (.istore 6, 2) := by decide +kernel
theorem dX8_step_44 : decode cX8_step 44 = .ok (.aload_n 0, 1) := by decide +kernel
theorem dX8_step_45 : decode cX8_step 45 = .ok (.getfield 24, 3) := by decide +kernel
theorem dX8_step_48 : decode cX8_step 48 = .ok (.iload 5, 2) := by decide +kernel
theorem dX8_step_50 : decode cX8_step 50 = .ok (.iaload, 1) := by decide +kernel
theorem dX8_step_51 : decode cX8_step 51 = .ok (.iload_n 2, 1) := by decide +kernel
theorem dX8_step_52 : decode cX8_step 52 = .ok (.if_icmp .ne 30, 3) := by decide +kernel
theorem dX8_step_55 : decode cX8_step 55 = .ok (.iload_n 3, 1) := by decide +kernel
theorem dX8_step_56 : decode cX8_step 56 = .ok (.bipush 15, 2) := by decide +kernel
theorem dX8_step_58 : decode cX8_step 58 = .ok (.iconst 4, 1) := by decide +kernel
theorem dX8_step_59 : decode cX8_step 59 = .ok (.iload 5, 2) := by decide +kernel
theorem dX8_step_61 : decode cX8_step 61 = .ok (.imul, 1) := by decide +kernel
theorem dX8_step_62 : decode cX8_step 62 = .ok (.ishl, 1) := by decide +kernel
theorem dX8_step_63 : decode cX8_step 63 = .ok (.iconst (-1), 1) := by decide +kernel
theorem dX8_step_64 : decode cX8_step 64 = .ok (.ixor, 1) := by decide +kernel
theorem dX8_step_65 : decode cX8_step 65 = .ok (.iand, 1) := by decide +kernel
theorem dX8_step_66 : decode cX8_step 66 = .ok (.aload_n 0, 1) := by decide +kernel
theorem dX8_step_67 : decode cX8_step 67 = .ok (.iload 6, 2) := by decide +kernel
theorem dX8_step_69 : decode cX8_step 69 = .ok (.iload 4, 2) := by decide +kernel
theorem dX8_step_71 : decode cX8_step 71 = .ok (.iadd, 1) := by decide +kernel
theorem dX8_step_72 : decode cX8_step 72 = .ok (.invokevirtual 28, 3) := by decide +kernel
theorem dX8_step_75 : decode cX8_step 75 = .ok (.iconst 4, 1) := by decide +kernel
theorem dX8_step_76 : decode cX8_step 76 = .ok (.iload 5, 2) := by decide +kernel
theorem dX8_step_78 : decode cX8_step 78 = .ok (.imul, 1) := by decide +kernel
theorem dX8_step_79 : decode cX8_step 79 = .ok (.ishl, 1) := by decide +kernel
theorem dX8_step_80 : decode cX8_step 80 = .ok (.ior, 1) := by decide +kernel
theorem dX8_step_81 : decode cX8_step 81 = .ok (.istore_n 3, 1) := by decide +kernel
theorem dX8_step_82 : decode cX8_step 82 = .ok (.iload 6, 2) := by decide +kernel
theorem dX8_step_84 : decode cX8_step 84 = .ok (.istore 4, 2) := by decide +kernel
theorem dX8_step_86 : decode cX8_step 86 = .ok (.iinc 5 1, 3) := by decide +kernel
theorem dX8_step_89 : decode cX8_step 89 = .ok (.goto (-65), 3) := by decide +kernel
theorem dX8_step_92 : decode cX8_step 92 = .ok (.iload_n 3, 1) := by decide +kernel
theorem dX8_step_93 : decode cX8_step 93 = .ok (.ireturn, 1) := by decide +kernel
theorem dX8_bounded_0 : decode cX8_bounded 0 = .ok (.aload_n 0, 1) := by decide +kernel
theorem dX8_bounded_1 : decode cX8_bounded 1 = .ok (.getfield 9, 3) := by decide +kernel
theorem dX8_bounded_4 : decode cX8_bounded 4 = .ok (.iconst 2, 1) := by decide +kernel
theorem dX8_bounded_5 : decode cX8_bounded 5 = .ok (.if_icmp .ne 12, 3) := by decide +kernel
theorem dX8_bounded_8 : decode cX8_bounded 8 = .ok (.iload_n 1, 1) := by decide +kernel
theorem dX8_bounded_9 : decode cX8_bounded 9 = .ok (.aload_n 0, 1) := by decide +kernel
theorem dX8_bounded_10 : decode cX8_bounded 10 = .ok (.getfield 15, 3) := by decide +kernel
theorem dX8_bounded_13 : decode cX8_bounded 13 = .ok (.invokestatic 32, 3) := by decide +kernel
theorem dX8_bounded_16 : decode cX8_bounded 16 = .ok (.ireturn, 1) := by decide +kernel
theorem dX8_bounded_17 : decode cX8_bounded 17 = .ok (.iload_n 1, 1) := by decide +kernel
theorem dX8_bounded_18 : decode cX8_bounded 18 = .ok (.aload_n 0, 1) := by decide +kernel
theorem dX8_bounded_19 : decode cX8_bounded 19 = .ok (.getfield 15, 3) := by decide +kernel
theorem dX8_bounded_22 : decode cX8_bounded 22 = .ok (.if_icmp .lt 12, 3) := by decide +kernel
theorem dX8_bounded_25 : decode cX8_bounded 25 = .ok (.iload_n 1, 1) := by decide +kernel
theorem dX8_bounded_26 : decode cX8_bounded 26 = .ok (.aload_n 0, 1) := by decide +kernel
theorem dX8_bounded_27 : decode cX8_bounded 27 = .ok (.getfield 15, 3) := by decide +kernel
theorem dX8_bounded_30 : decode cX8_bounded 30 = .ok (.isub, 1) := by decide +kernel
theorem dX8_bounded_31 : decode cX8_bounded 31 = .ok (.goto 4, 3) := by decide +kernel
theorem dX8_bounded_34 : decode cX8_bounded 34 = .ok (.iload_n 1, 1) := by decide +kernel
theorem dX8_bounded_35 : decode cX8_bounded 35 = .ok (.ireturn, 1) := by decide +kernel
theorem dX8_valueAt_0 : decode cX8_valueAt 0 = .ok (.aload_n 0, 1) := by decide +kernel
theorem dX8_valueAt_1 : decode cX8_valueAt 1 = .ok (.getfield 9, 3) := by decide +kernel
theorem dX8_valueAt_4 : decode cX8_valueAt 4 = .ok (.iconst 1, 1) := by decide +kernel
theorem dX8_valueAt_5 : decode cX8_valueAt 5 = .ok (.if_icmp .ne 7, 3) := by decide +kernel
theorem dX8_valueAt_8 : decode cX8_valueAt 8 = .ok (.iload_n 1, 1) := by decide +kernel
theorem dX8_valueAt_9 : decode cX8_valueAt 9 = .ok (.goto 16, 3) := by decide +kernel
theorem dX8_valueAt_12 : decode cX8_valueAt 12 = .ok (.iload_n 1, 1) := by decide +kernel
theorem dX8_valueAt_13 : decode cX8_valueAt 13 = .ok (.iconst 4, 1) := by decide +kernel
theorem dX8_valueAt_14 : decode cX8_valueAt 14 = .ok (.aload_n 0, 1) := by decide +kernel
theorem dX8_valueAt_15 : decode cX8_valueAt 15 = .ok (.getfield 21, 3) := by decide +kernel
theorem dX8_valueAt_18 : decode cX8_valueAt 18 = .ok (.iconst 1, 1) := by decide +kernel
theorem dX8_valueAt_19 : decode cX8_valueAt 19 = .ok (.isub, 1) := by decide +kernel
theorem dX8_valueAt_20 : decode cX8_valueAt 20 = .ok (.imul, 1) := by decide +kernel
theorem dX8_valueAt_21 : decode cX8_valueAt 21 = .ok (.iushr, 1) := by decide +kernel
theorem dX8_valueAt_22 : decode cX8_valueAt 22 = .ok (.bipush 15, 2) := by decide +kernel
theorem dX8_valueAt_24 : decode cX8_valueAt 24 = .ok (.iand, 1) := by decide +kernel
theorem dX8_valueAt_25 : decode cX8_valueAt 25 = .ok (.ireturn, 1) := by decide +kernel
set_option maxRecDepth 20000 in
theorem ggX8_valueFor_X8_step : GoodIn wsX8_valueFor wsX8_step := goodIn_r _ [7, 8, 9, 10, 11, 12, 13, 6, 14, 15, 16, 17, 18, 19, 27, 28, 29, 30, 31] (by decide +kernel) (by decide +kernel)
set_option maxRecDepth 20000 in
theorem gX8_valueFor_X8_step : GoodIn wsX8_valueFor (wsV RX8 44 RX8 yX8_step wsX8_step) := goodIn_app (goodIn_of _ (by decide +kernel)) ggX8_valueFor_X8_step
set_option maxRecDepth 20000 in
theorem ggX8_valueFor_X8_valueAt : GoodIn wsX8_valueFor wsX8_valueAt := goodIn_r _ [23, 8, 9, 27, 28, 29, 30, 31] (by decide +kernel) (by decide +kernel)
set_option maxRecDepth 20000 in
theorem gX8_valueFor_X8_valueAt : GoodIn wsX8_valueFor (wsV RX8 47 RX8 yX8_valueAt wsX8_valueAt) := goodIn_app (goodIn_of _ (by decide +kernel)) ggX8_valueFor_X8_valueAt
theorem dX8_valueFor_0 : decode cX8_valueFor 0 = .ok (.iconst 0, 1) := by decide +kernel
theorem dX8_valueFor_1 : decode cX8_valueFor 1 = .ok (.istore_n 2, 1) := by decide +kernel
theorem dX8_valueFor_2 : decode cX8_valueFor 2 = .ok (.iconst 0, 1) := by decide +kernel
theorem dX8_valueFor_3 : decode cX8_valueFor 3 = .ok (.istore_n 3, 1) := by decide +kernel
theorem dX8_valueFor_4 : decode cX8_valueFor 4 = .ok (.iload_n 3, 1) := by decide +kernel
theorem dX8_valueFor_5 : decode cX8_valueFor 5 = .ok (.aload_n 1, 1) := by decide +kernel
theorem dX8_valueFor_6 : decode cX8_valueFor 6 = .ok (.getfield 38, 3) := by decide +kernel
theorem dX8_valueFor_9 : decode cX8_valueFor 9 = .ok (.if_icmp .ge 21, 3) := by decide +kernel
theorem dX8_valueFor_12 : decode cX8_valueFor 12 = .ok (.aload_n 0, 1) := by decide +kernel
theorem dX8_valueFor_13 : decode cX8_valueFor 13 = .ok (.iload_n 2, 1) := by decide +kernel
theorem dX8_valueFor_14 : decode cX8_valueFor 14 = .ok (.aload_n 1, 1) := by decide +kernel
theorem dX8_valueFor_15 : decode cX8_valueFor 15 = .ok (.getfield 41, 3) := by decide +kernel
theorem dX8_valueFor_18 : decode cX8_valueFor 18 = .ok (.iload_n 3, 1) := by decide +kernel
theorem dX8_valueFor_19 : decode cX8_valueFor 19 = .ok (.iaload, 1) := by decide +kernel
theorem dX8_valueFor_20 : decode cX8_valueFor 20 = .ok (.invokevirtual 44, 3) := by decide +kernel
theorem dX8_valueFor_23 : decode cX8_valueFor 23 = .ok (.istore_n 2, 1) := by decide +kernel
theorem dX8_valueFor_24 : decode cX8_valueFor 24 = .ok (.iinc 3 1, 3) := by decide +kernel
theorem dX8_valueFor_27 : decode cX8_valueFor 27 = .ok (.goto (-23), 3) := by decide +kernel
theorem dX8_valueFor_30 : decode cX8_valueFor 30 = .ok (.aload_n 0, 1) := by decide +kernel
theorem dX8_valueFor_31 : decode cX8_valueFor 31 = .ok (.iload_n 2, 1) := by decide +kernel
theorem dX8_valueFor_32 : decode cX8_valueFor 32 = .ok (.invokevirtual 47, 3) := by decide +kernel
theorem dX8_valueFor_35 : decode cX8_valueFor 35 = .ok (.ireturn, 1) := by decide +kernel
theorem dX9_init_0 : decode cX9_init 0 = .ok (.aload_n 0, 1) := by decide +kernel
theorem dX9_init_1 : decode cX9_init 1 = .ok (.invokespecial 3, 3) := by decide +kernel
theorem dX9_init_4 : decode cX9_init 4 = .ok (.aload_n 0, 1) := by decide +kernel
theorem dX9_init_5 : decode cX9_init 5 = .ok (.bipush 12, 2) := by decide +kernel
theorem dX9_init_7 : decode cX9_init 7 = .ok (.newarray .int, 2) := by decide +kernel
theorem dX9_init_9 : decode cX9_init 9 = .ok (.putfield 9, 3) := by decide +kernel
theorem dX9_init_12 : decode cX9_init 12 = .ok (.aload_n 0, 1) := by decide +kernel
theorem dX9_init_13 : decode cX9_init 13 = .ok (.iconst 0, 1) := by decide +kernel
theorem dX9_init_14 : decode cX9_init 14 = .ok (.putfield 15, 3) := by decide +kernel
theorem dX9_init_17 : decode cX9_init 17 = .ok (.aload_n 0, 1) := by decide +kernel
theorem dX9_init_18 : decode cX9_init 18 = .ok (.bipush 13, 2) := by decide +kernel
theorem dX9_init_20 : decode cX9_init 20 = .ok (.newarray .int, 2) := by decide +kernel
theorem dX9_init_22 : decode cX9_init 22 = .ok (.putfield 19, 3) := by decide +kernel
theorem dX9_init_25 : decode cX9_init 25 = .ok (.return_, 1) := by decide +kernel
theorem dX9_push_0 : decode cX9_push 0 = .ok (.aload_n 0, 1) := by decide +kernel
theorem dX9_push_1 : decode cX9_push 1 = .ok (.getfield 15, 3) := by decide +kernel
theorem dX9_push_4 : decode cX9_push 4 = .ok (.bipush 12, 2) := by decide +kernel
theorem dX9_push_6 : decode cX9_push 6 = .ok (.if_icmp .ge 23, 3) := by decide +kernel
theorem dX9_push_9 : decode cX9_push 9 = .ok (.aload_n 0, 1) := by decide +kernel
theorem dX9_push_10 : decode cX9_push 10 = .ok (.getfield 9, 3) := by decide +kernel
theorem dX9_push_13 : decode cX9_push 13 = .ok (.aload_n 0, 1) := by decide +kernel
theorem dX9_push_14 : decode cX9_push 14 = .ok (.getfield 15, 3) := by decide +kernel
theorem dX9_push_17 : decode cX9_push 17 = .ok (.iload_n 1, 1) := by decide +kernel
theorem dX9_push_18 : decode cX9_push 18 = .ok (.iastore, 1) := by decide +kernel
theorem dX9_push_19 : decode cX9_push 19 = .ok (.aload_n 0, 1) := by decide +kernel
theorem dX9_push_20 : decode cX9_push 20 = .ok (.dup, 1) := by decide +kernel
theorem dX9_push_21 : decode cX9_push 21 = .ok (.getfield 15, 3) := by decide +kernel
theorem dX9_push_24 : decode cX9_push 24 = .ok (.iconst 1, 1) := by decide +kernel
theorem dX9_push_25 : decode cX9_push 25 = .ok (.iadd, 1) := by decide +kernel
theorem dX9_push_26 : decode cX9_push 26 = .ok (.putfield 15, 3) := by decide +kernel
theorem dX9_push_29 : decode cX9_push 29 = .ok (.return_, 1) := by decide +kernel
set_option maxRecDepth 20000 in
theorem ggX9_pushAll_X9_push : GoodIn wsX9_pushAll wsX9_push := goodIn_r _ [7, 1, 2, 8, 9, 10] (by decide +kernel) (by decide +kernel)
set_option maxRecDepth 20000 in
theorem gX9_pushAll_X9_push : GoodIn wsX9_pushAll (wsV RX9 22 RX9 yX9_push wsX9_push) := goodIn_app (goodIn_of _ (by decide +kernel)) ggX9_pushAll_X9_push
theorem dX9_pushAll_0 : decode cX9_pushAll 0 = .ok (.aload_n 1, 1) := by decide +kernel
theorem dX9_pushAll_1 : decode cX9_pushAll 1 = .ok (.getfield 15, 3) := by decide +kernel
theorem dX9_pushAll_4 : decode cX9_pushAll 4 = .ok (.istore_n 2, 1) := by decide +kernel
theorem dX9_pushAll_5 : decode cX9_pushAll 5 = .ok (.iconst 0, 1) := by decide +kernel
theorem dX9_pushAll_6 : decode cX9_pushAll 6 = .ok (.istore_n 3, 1) := by decide +kernel
theorem dX9_pushAll_7 : decode cX9_pushAll 7 = .ok (.iload_n 3, 1) := by decide +kernel
theorem dX9_pushAll_8 : decode cX9_pushAll 8 = .ok (.iload_n 2, 1) := by decide +kernel
theorem dX9_pushAll_9 : decode cX9_pushAll 9 = .ok (.if_icmp .ge 19, 3) := by decide +kernel
theorem dX9_pushAll_12 : decode cX9_pushAll 12 = .ok (.aload_n 0, 1) := by decide +kernel
theorem dX9_pushAll_13 : decode cX9_pushAll 13 = .ok (.aload_n 1, 1) := by decide +kernel
theorem dX9_pushAll_14 : decode cX9_pushAll 14 = .ok (.getfield 9, 3) := by decide +kernel
theorem dX9_pushAll_17 : decode cX9_pushAll 17 = .ok (.iload_n 3, 1) := by decide +kernel
theorem dX9_pushAll_18 : decode cX9_pushAll 18 = .ok (.iaload, 1) := by decide +kernel
theorem dX9_pushAll_19 : decode cX9_pushAll 19 = .ok (.invokevirtual 22, 3) := by decide +kernel
theorem dX9_pushAll_22 : decode cX9_pushAll 22 = .ok (.iinc 3 1, 3) := by decide +kernel
theorem dX9_pushAll_25 : decode cX9_pushAll 25 = .ok (.goto (-18), 3) := by decide +kernel
theorem dX9_pushAll_28 : decode cX9_pushAll 28 = .ok (.return_, 1) := by decide +kernel
theorem dX9_copyFrom_0 : decode cX9_copyFrom 0 = .ok (.aload_n 1, 1) := by decide +kernel
theorem dX9_copyFrom_1 : decode cX9_copyFrom 1 = .ok (.getfield 9, 3) := by decide +kernel
theorem dX9_copyFrom_4 : decode cX9_copyFrom 4 = .ok (.iconst 0, 1) := by decide +kernel
theorem dX9_copyFrom_5 : decode cX9_copyFrom 5 = .ok (.aload_n 0, 1) := by decide +kernel
theorem dX9_copyFrom_6 : decode cX9_copyFrom 6 = .ok (.getfield 9, 3) := by decide +kernel
theorem dX9_copyFrom_9 : decode cX9_copyFrom 9 = .ok (.iconst 0, 1) := by decide +kernel
theorem dX9_copyFrom_10 : decode cX9_copyFrom 10 = .ok (.bipush 12, 2) := by decide +kernel
theorem dX9_copyFrom_12 : decode cX9_copyFrom 12 = .ok (.invokestatic 26, 3) := by decide +kernel
theorem dX9_copyFrom_15 : decode cX9_copyFrom 15 = .ok (.aload_n 0, 1) := by decide +kernel
theorem dX9_copyFrom_16 : decode cX9_copyFrom 16 = .ok (.aload_n 1, 1) := by decide +kernel
theorem dX9_copyFrom_17 : decode cX9_copyFrom 17 = .ok (.getfield 15, 3) := by decide +kernel
theorem dX9_copyFrom_20 : decode cX9_copyFrom 20 = .ok (.putfield 15, 3) := by decide +kernel
theorem dX9_copyFrom_23 : decode cX9_copyFrom 23 = .ok (.return_, 1) := by decide +kernel
theorem dX9_setListed_0 : decode cX9_setListed 0 = .ok (.aload_n 0, 1) := by decide +kernel
theorem dX9_setListed_1 : decode cX9_setListed 1 = .ok (.iload_n 1, 1) := by decide +kernel
theorem dX9_setListed_2 : decode cX9_setListed 2 = .ok (.bipush 12, 2) := by decide +kernel
theorem dX9_setListed_4 : decode cX9_setListed 4 = .ok (.invokestatic 32, 3) := by decide +kernel
theorem dX9_setListed_7 : decode cX9_setListed 7 = .ok (.putfield 15, 3) := by decide +kernel
theorem dX9_setListed_10 : decode cX9_setListed 10 = .ok (.iload_n 2, 1) := by decide +kernel
theorem dX9_setListed_11 : decode cX9_setListed 11 = .ok (.istore 4, 2) := by decide +kernel
theorem dX9_setListed_13 : decode cX9_setListed 13 = .ok (.iload_n 3, 1) := by decide +kernel
theorem dX9_setListed_14 : decode cX9_setListed 14 = .ok (.iconst 1, 1) := by decide +kernel
theorem dX9_setListed_15 : decode cX9_setListed 15 = .ok (.invokestatic 38, 3) := by decide +kernel
theorem dX9_setListed_18 : decode cX9_setListed 18 = .ok (.istore 5, 2) := by decide +kernel
theorem dX9_setListed_20 : decode cX9_setListed 20 = .ok (.aload_n 0, 1) := by decide +kernel
theorem dX9_setListed_21 : decode cX9_setListed 21 = .ok (.getfield 15, 3) := by decide +kernel
theorem dX9_setListed_24 : decode cX9_setListed 24 = .ok (.iconst 1, 1) := by decide +kernel
theorem dX9_setListed_25 : decode cX9_setListed 25 = .ok (.isub, 1) := by decide +kernel
theorem dX9_setListed_26 : decode cX9_setListed 26 = .ok (.istore 6, 2) := by decide +kernel
theorem dX9_setListed_28 : decode cX9_setListed 28 = .ok (.iload 6, 2) := by decide +kernel
theorem dX9_setListed_30 : decode cX9_setListed 30 = .ok (.ifCond .lt 28, 3) := by decide +kernel
theorem dX9_setListed_33 : decode cX9_setListed 33 = .ok (.aload_n 0, 1) := by decide +kernel
theorem dX9_setListed_34 : decode cX9_setListed 34 = .ok (.getfield 9, 3) := by decide +kernel
theorem dX9_setListed_37 : decode cX9_setListed 37 = .ok (.iload 6, 2) := by decide +kernel
theorem dX9_setListed_39 : decode cX9_setListed 39 = .ok (.iload 4, 2) := by decide +kernel
theorem dX9_setListed_41 : decode cX9_setListed 41 = .ok (.iload 5, 2) := by decide +kernel
theorem dX9_setListed_43 : decode cX9_setListed 43 = .ok (.irem, 1) := by decide +kernel
theorem dX9_setListed_44 : decode cX9_setListed 44 = .ok (.iastore, 1) := by decide +kernel
theorem dX9_setListed_45 : decode cX9_setListed 45 = .ok (.iload 4, 2) := by decide +kernel
theorem dX9_setListed_47 : decode cX9_setListed 47 = .ok (.iload 5, 2) := by decide +kernel
theorem dX9_setListed_49 : decode cX9_setListed 49 = .ok (.idiv, 1) := by decide +kernel
theorem dX9_setListed_50 : decode cX9_setListed 50 = .ok (.istore 4, 2) := by decide +kernel
theorem dX9_setListed_52 : decode cX9_setListed 52 = .ok (.iinc 6 (-1), 3) := by decide +kernel
theorem dX9_setListed_55 : decode cX9_setListed 55 = .ok (.goto (-27), 3) := by decide +kernel
theorem dX9_setListed_58 : decode cX9_setListed 58 = .ok (.return_, 1) := by decide +kernel
theorem dX9_turnRound_0 : decode cX9_turnRound 0 = .ok (.iconst 1, 1) := by decide +kernel
theorem dX9_turnRound_1 : decode cX9_turnRound 1 = .ok (.istore_n 1, 1) := by decide +kernel
theorem dX9_turnRound_2 : decode cX9_turnRound 2 = .ok (.iconst 0, 1) := by decide +kernel
theorem dX9_turnRound_3 : decode cX9_turnRound 3 = .ok (.istore_n 2, 1) := by decide +kernel
theorem dX9_turnRound_4 : decode cX9_turnRound 4 = .ok (.iload_n 2, 1) := by decide +kernel
theorem dX9_turnRound_5 : decode cX9_turnRound 5 = .ok (.aload_n 0, 1) := by decide +kernel
theorem dX9_turnRound_6 : decode cX9_turnRound 6 = .ok (.getfield 15, 3) := by decide +kernel
theorem dX9_turnRound_9 : decode cX9_turnRound 9 = .ok (.iconst 2, 1) := by decide +kernel
theorem dX9_turnRound_10 : decode cX9_turnRound 10 = .ok (.idiv, 1) := by decide +kernel
theorem dX9_turnRound_11 : decode cX9_turnRound 11 = .ok (.if_icmp .ge 69, 3) := by decide +kernel
theorem dX9_turnRound_14 : decode cX9_turnRound 14 = .ok (.aload_n 0, 1) := by decide +kernel
theorem dX9_turnRound_15 : decode cX9_turnRound 15 = .ok (.getfield 9, 3) := by decide +kernel
theorem dX9_turnRound_18 : decode cX9_turnRound 18 = .ok (.iload_n 2, 1) := by decide +kernel
theorem dX9_turnRound_19 : decode cX9_turnRound 19 = .ok (.iaload, 1) := by decide +kernel
theorem dX9_turnRound_20 : decode cX9_turnRound 20 = .ok (.istore_n 3, 1) := by decide +kernel
theorem dX9_turnRound_21 : decode cX9_turnRound 21 = .ok (.aload_n 0, 1) := by decide +kernel
theorem dX9_turnRound_22 : decode cX9_turnRound 22 = .ok (.getfield 9, 3) := by decide +kernel
theorem dX9_turnRound_25 : decode cX9_turnRound 25 = .ok (.aload_n 0, 1) := by decide +kernel
theorem dX9_turnRound_26 : decode cX9_turnRound 26 = .ok (.getfield 15, 3) := by decide +kernel
theorem dX9_turnRound_29 : decode cX9_turnRound 29 = .ok (.iconst 1, 1) := by decide +kernel
theorem dX9_turnRound_30 : decode cX9_turnRound 30 = .ok (.isub, 1) := by decide +kernel
theorem dX9_turnRound_31 : decode cX9_turnRound 31 = .ok (.iload_n 2, 1) := by decide +kernel
theorem dX9_turnRound_32 : decode cX9_turnRound 32 = .ok (.isub, 1) := by decide +kernel
theorem dX9_turnRound_33 : decode cX9_turnRound 33 = .ok (.iaload, 1) := by decide +kernel
theorem dX9_turnRound_34 : decode cX9_turnRound 34 = .ok (.istore 4, 2) := by decide +kernel
theorem dX9_turnRound_36 : decode cX9_turnRound 36 = .ok (.iload_n 1, 1) := by decide +kernel
theorem dX9_turnRound_37 : decode cX9_turnRound 37 = .ok (.ifCond .eq 13, 3) := by decide +kernel
theorem dX9_turnRound_40 : decode cX9_turnRound 40 = .ok (.iload_n 3, 1) := by decide +kernel
theorem dX9_turnRound_41 : decode cX9_turnRound 41 = .ok (.iload 4, 2) := by decide +kernel
theorem dX9_turnRound_43 : decode cX9_turnRound 43 = .ok (.if_icmp .ne 7, 3) := by decide +kernel
theorem dX9_turnRound_46 : decode cX9_turnRound 46 = .ok (.iconst 1, 1) := by decide +kernel
theorem dX9_turnRound_47 : decode cX9_turnRound 47 = .ok (.goto 4, 3) := by decide +kernel
theorem dX9_turnRound_50 : decode cX9_turnRound 50 = .ok (.iconst 0, 1) := by decide +kernel
theorem dX9_turnRound_51 : decode cX9_turnRound 51 = .ok (.istore_n 1, 1) := by decide +kernel
theorem dX9_turnRound_52 : decode cX9_turnRound 52 = .ok (.aload_n 0, 1) := by decide +kernel
theorem dX9_turnRound_53 : decode cX9_turnRound 53 = .ok (.getfield 9, 3) := by decide +kernel
theorem dX9_turnRound_56 : decode cX9_turnRound 56 = .ok (.iload_n 2, 1) := by decide +kernel
theorem dX9_turnRound_57 : decode cX9_turnRound 57 = .ok (.iload 4, 2) := by decide +kernel
theorem dX9_turnRound_59 : decode cX9_turnRound 59 = .ok (.iastore, 1) := by decide +kernel
theorem dX9_turnRound_60 : decode cX9_turnRound 60 = .ok (.aload_n 0, 1) := by decide +kernel
theorem dX9_turnRound_61 : decode cX9_turnRound 61 = .ok (.getfield 9, 3) := by decide +kernel
theorem dX9_turnRound_64 : decode cX9_turnRound 64 = .ok (.aload_n 0, 1) := by decide +kernel
theorem dX9_turnRound_65 : decode cX9_turnRound 65 = .ok (.getfield 15, 3) := by decide +kernel
theorem dX9_turnRound_68 : decode cX9_turnRound 68 = .ok (.iconst 1, 1) := by decide +kernel
theorem dX9_turnRound_69 : decode cX9_turnRound 69 = .ok (.isub, 1) := by decide +kernel
theorem dX9_turnRound_70 : decode cX9_turnRound 70 = .ok (.iload_n 2, 1) := by decide +kernel
theorem dX9_turnRound_71 : decode cX9_turnRound 71 = .ok (.isub, 1) := by decide +kernel
theorem dX9_turnRound_72 : decode cX9_turnRound 72 = .ok (.iload_n 3, 1) := by decide +kernel
theorem dX9_turnRound_73 : decode cX9_turnRound 73 = .ok (.iastore, 1) := by decide +kernel
theorem dX9_turnRound_74 : decode cX9_turnRound 74 = .ok (.iinc 2 1, 3) := by decide +kernel
theorem dX9_turnRound_77 : decode cX9_turnRound 77 = .ok (.goto (-73), 3) := by decide +kernel
theorem dX9_turnRound_80 : decode cX9_turnRound 80 = .ok (.iload_n 1, 1) := by decide +kernel
theorem dX9_turnRound_81 : decode cX9_turnRound 81 = .ok (.ireturn, 1) := by decide +kernel
theorem dX9_orderAgainst_0 : decode cX9_orderAgainst 0 = .ok (.aload_n 0, 1) := by decide +kernel
theorem dX9_orderAgainst_1 : decode cX9_orderAgainst 1 = .ok (.getfield 15, 3) := by decide +kernel
theorem dX9_orderAgainst_4 : decode cX9_orderAgainst 4 = .ok (.aload_n 1, 1) := by decide +kernel
theorem dX9_orderAgainst_5 : decode cX9_orderAgainst 5 = .ok (.getfield 15, 3) := by decide +kernel
theorem dX9_orderAgainst_8 : decode cX9_orderAgainst 8 = .ok (.if_icmp .eq 20, 3) := by decide +kernel
theorem dX9_orderAgainst_11 : decode cX9_orderAgainst 11 = .ok (.aload_n 0, 1) := by decide +kernel
theorem dX9_orderAgainst_12 : decode cX9_orderAgainst 12 = .ok (.getfield 15, 3) := by decide +kernel
theorem dX9_orderAgainst_15 : decode cX9_orderAgainst 15 = .ok (.aload_n 1, 1) := by decide +kernel
theorem dX9_orderAgainst_16 : decode cX9_orderAgainst 16 = .ok (.getfield 15, 3) := by decide +kernel
theorem dX9_orderAgainst_19 : decode cX9_orderAgainst 19 = .ok (.if_icmp .ge 7, 3) := by decide +kernel
theorem dX9_orderAgainst_22 : decode cX9_orderAgainst 22 = .ok (.iconst 0, 1) := by decide +kernel
theorem dX9_orderAgainst_23 : decode cX9_orderAgainst 23 = .ok (.goto 4, 3) := by decide +kernel
theorem dX9_orderAgainst_26 : decode cX9_orderAgainst 26 = .ok (.iconst 2, 1) := by decide +kernel
theorem dX9_orderAgainst_27 : decode cX9_orderAgainst 27 = .ok (.ireturn, 1) := by decide +kernel
theorem dX9_orderAgainst_28 : decode cX9_orderAgainst 28 = .ok (.iconst 0, 1) := by decide +kernel
theorem dX9_orderAgainst_29 : decode cX9_orderAgainst 29 = .ok (.istore_n 2, 1) := by decide +kernel
theorem dX9_orderAgainst_30 : decode cX9_orderAgainst 30 = .ok (.iload_n 2, 1) := by decide +kernel
theorem dX9_orderAgainst_31 : decode cX9_orderAgainst 31 = .ok (.aload_n 0, 1) := by decide +kernel
theorem dX9_orderAgainst_32 : decode cX9_orderAgainst 32 = .ok (.getfield 15, 3) := by decide +kernel
theorem dX9_orderAgainst_35 : decode cX9_orderAgainst 35 = .ok (.if_icmp .ge 45, 3) := by decide +kernel
theorem dX9_orderAgainst_38 : decode cX9_orderAgainst 38 = .ok (.aload_n 0, 1) := by decide +kernel
theorem dX9_orderAgainst_39 : decode cX9_orderAgainst 39 = .ok (.getfield 9, 3) := by decide +kernel
theorem dX9_orderAgainst_42 : decode cX9_orderAgainst 42 = .ok (.iload_n 2, 1) := by decide +kernel
theorem dX9_orderAgainst_43 : decode cX9_orderAgainst 43 = .ok (.iaload, 1) := by decide +kernel
theorem dX9_orderAgainst_44 : decode cX9_orderAgainst 44 = .ok (.aload_n 1, 1) := by decide +kernel
theorem dX9_orderAgainst_45 : decode cX9_orderAgainst 45 = .ok (.getfield 9, 3) := by decide +kernel
theorem dX9_orderAgainst_48 : decode cX9_orderAgainst 48 = .ok (.iload_n 2, 1) := by decide +kernel
theorem dX9_orderAgainst_49 : decode cX9_orderAgainst 49 = .ok (.iaload, 1) := by decide +kernel
theorem dX9_orderAgainst_50 : decode cX9_orderAgainst 50 = .ok (.if_icmp .eq 24, 3) := by decide +kernel
theorem dX9_orderAgainst_53 : decode cX9_orderAgainst 53 = .ok (.aload_n 0, 1) := by decide +kernel
theorem dX9_orderAgainst_54 : decode cX9_orderAgainst 54 = .ok (.getfield 9, 3) := by decide +kernel
theorem dX9_orderAgainst_57 : decode cX9_orderAgainst 57 = .ok (.iload_n 2, 1) := by decide +kernel
theorem dX9_orderAgainst_58 : decode cX9_orderAgainst 58 = .ok (.iaload, 1) := by decide +kernel
theorem dX9_orderAgainst_59 : decode cX9_orderAgainst 59 = .ok (.aload_n 1, 1) := by decide +kernel
theorem dX9_orderAgainst_60 : decode cX9_orderAgainst 60 = .ok (.getfield 9, 3) := by decide +kernel
theorem dX9_orderAgainst_63 : decode cX9_orderAgainst 63 = .ok (.iload_n 2, 1) := by decide +kernel
theorem dX9_orderAgainst_64 : decode cX9_orderAgainst 64 = .ok (.iaload, 1) := by decide +kernel
theorem dX9_orderAgainst_65 : decode cX9_orderAgainst 65 = .ok (.if_icmp .ge 7, 3) := by decide +kernel
theorem dX9_orderAgainst_68 : decode cX9_orderAgainst 68 = .ok (.iconst 0, 1) := by decide +kernel
theorem dX9_orderAgainst_69 : decode cX9_orderAgainst 69 = .ok (.goto 4, 3) := by decide +kernel
theorem dX9_orderAgainst_72 : decode cX9_orderAgainst 72 = .ok (.iconst 2, 1) := by decide +kernel
theorem dX9_orderAgainst_73 : decode cX9_orderAgainst 73 = .ok (.ireturn, 1) := by decide +kernel
theorem dX9_orderAgainst_74 : decode cX9_orderAgainst 74 = .ok (.iinc 2 1, 3) := by decide +kernel
theorem dX9_orderAgainst_77 : decode cX9_orderAgainst 77 = .ok (.goto (-47), 3) := by decide +kernel
theorem dX9_orderAgainst_80 : decode cX9_orderAgainst 80 = .ok (.iconst 1, 1) := by decide +kernel
theorem dX9_orderAgainst_81 : decode cX9_orderAgainst 81 = .ok (.ireturn, 1) := by decide +kernel
set_option maxRecDepth 20000 in
theorem ggX9_occurrencesIn_J7_fill_53178 : GoodIn wsX9_occurrencesIn wsJ7_fill_53178 := goodIn_r _ [7] (by decide +kernel) (by decide +kernel)
set_option maxRecDepth 20000 in
theorem gX9_occurrencesIn_J7_fill_53178 : GoodIn wsX9_occurrencesIn (va_wsS RX9 41 yJ7_fill_53178 wsJ7_fill_53178) := goodIn_app (goodIn_of _ (by decide +kernel)) ggX9_occurrencesIn_J7_fill_53178
theorem dX9_occurrencesIn_0 : decode cX9_occurrencesIn 0 = .ok (.aload_n 0, 1) := by decide +kernel
theorem dX9_occurrencesIn_1 : decode cX9_occurrencesIn 1 = .ok (.getfield 19, 3) := by decide +kernel
theorem dX9_occurrencesIn_4 : decode cX9_occurrencesIn 4 = .ok (.iconst 0, 1) := by decide +kernel
theorem dX9_occurrencesIn_5 : decode cX9_occurrencesIn 5 = .ok (.invokestatic 41, 3) := by decide +kernel
theorem dX9_occurrencesIn_8 : decode cX9_occurrencesIn 8 = .ok (.aload_n 0, 1) := by decide +kernel
theorem dX9_occurrencesIn_9 : decode cX9_occurrencesIn 9 = .ok (.getfield 19, 3) := by decide +kernel
theorem dX9_occurrencesIn_12 : decode cX9_occurrencesIn 12 = .ok (.iconst 0, 1) := by decide +kernel
theorem dX9_occurrencesIn_13 : decode cX9_occurrencesIn 13 = .ok (.iconst 1, 1) := by decide +kernel
theorem dX9_occurrencesIn_14 : decode cX9_occurrencesIn 14 = .ok (.iastore, 1) := by decide +kernel
theorem dX9_occurrencesIn_15 : decode cX9_occurrencesIn 15 = .ok (.iconst 0, 1) := by decide +kernel
theorem dX9_occurrencesIn_16 : decode cX9_occurrencesIn 16 = .ok (.istore_n 2, 1) := by decide +kernel
theorem dX9_occurrencesIn_17 : decode cX9_occurrencesIn 17 = .ok (.iload_n 2, 1) := by decide +kernel
theorem dX9_occurrencesIn_18 : decode cX9_occurrencesIn 18 = .ok (.aload_n 1, 1) := by decide +kernel
theorem dX9_occurrencesIn_19 : decode cX9_occurrencesIn 19 = .ok (.getfield 15, 3) := by decide +kernel
theorem dX9_occurrencesIn_22 : decode cX9_occurrencesIn 22 = .ok (.if_icmp .ge 59, 3) := by decide +kernel
theorem dX9_occurrencesIn_25 : decode cX9_occurrencesIn 25 = .ok (.aload_n 0, 1) := by decide +kernel
theorem dX9_occurrencesIn_26 : decode cX9_occurrencesIn 26 = .ok (.getfield 15, 3) := by decide +kernel
theorem dX9_occurrencesIn_29 : decode cX9_occurrencesIn 29 = .ok (.istore_n 3, 1) := by decide +kernel
theorem dX9_occurrencesIn_30 : decode cX9_occurrencesIn 30 = .ok (.iload_n 3, 1) := by decide +kernel
theorem dX9_occurrencesIn_31 : decode cX9_occurrencesIn 31 = .ok (.iconst 1, 1) := by decide +kernel
theorem dX9_occurrencesIn_32 : decode cX9_occurrencesIn 32 = .ok (.if_icmp .lt 43, 3) := by decide +kernel
theorem dX9_occurrencesIn_35 : decode cX9_occurrencesIn 35 = .ok (.aload_n 0, 1) := by decide +kernel
theorem dX9_occurrencesIn_36 : decode cX9_occurrencesIn 36 = .ok (.getfield 9, 3) := by decide +kernel
theorem dX9_occurrencesIn_39 : decode cX9_occurrencesIn 39 = .ok (.iload_n 3, 1) := by decide +kernel
theorem dX9_occurrencesIn_40 : decode cX9_occurrencesIn 40 = .ok (.iconst 1, 1) := by decide +kernel
theorem dX9_occurrencesIn_41 : decode cX9_occurrencesIn 41 = .ok (.isub, 1) := by decide +kernel
theorem dX9_occurrencesIn_42 : decode cX9_occurrencesIn 42 = .ok (.iaload, 1) := by decide +kernel
theorem dX9_occurrencesIn_43 : decode cX9_occurrencesIn 43 = .ok (.aload_n 1, 1) := by decide +kernel
theorem dX9_occurrencesIn_44 : decode cX9_occurrencesIn 44 = .ok (.getfield 9, 3) := by decide +kernel
theorem dX9_occurrencesIn_47 : decode cX9_occurrencesIn 47 = .ok (.iload_n 2, 1) := by decide +kernel
theorem dX9_occurrencesIn_48 : decode cX9_occurrencesIn 48 = .ok (.iaload, 1) := by decide +kernel
theorem dX9_occurrencesIn_49 : decode cX9_occurrencesIn 49 = .ok (.if_icmp .ne 20, 3) := by decide +kernel
theorem dX9_occurrencesIn_52 : decode cX9_occurrencesIn 52 = .ok (.aload_n 0, 1) := by decide +kernel
theorem dX9_occurrencesIn_53 : decode cX9_occurrencesIn 53 = .ok (.getfield 19, 3) := by decide +kernel
theorem dX9_occurrencesIn_56 : decode cX9_occurrencesIn 56 = .ok (.iload_n 3, 1) := by decide +kernel
theorem dX9_occurrencesIn_57 : decode cX9_occurrencesIn 57 = .ok (.dup2, 1) := by decide +kernel
theorem dX9_occurrencesIn_58 : decode cX9_occurrencesIn 58 = .ok (.iaload, 1) := by decide +kernel
theorem dX9_occurrencesIn_59 : decode cX9_occurrencesIn 59 = .ok (.aload_n 0, 1) := by decide +kernel
theorem dX9_occurrencesIn_60 : decode cX9_occurrencesIn 60 = .ok (.getfield 19, 3) := by decide +kernel
theorem dX9_occurrencesIn_63 : decode cX9_occurrencesIn 63 = .ok (.iload_n 3, 1) := by decide +kernel
theorem dX9_occurrencesIn_64 : decode cX9_occurrencesIn 64 = .ok (.iconst 1, 1) := by decide +kernel
theorem dX9_occurrencesIn_65 : decode cX9_occurrencesIn 65 = .ok (.isub, 1) := by decide +kernel
theorem dX9_occurrencesIn_66 : decode cX9_occurrencesIn 66 = .ok (.iaload, 1) := by decide +kernel
theorem dX9_occurrencesIn_67 : decode cX9_occurrencesIn 67 = .ok (.iadd, 1) := by decide +kernel
theorem dX9_occurrencesIn_68 : decode cX9_occurrencesIn 68 = .ok (.iastore, 1) := by decide +kernel
theorem dX9_occurrencesIn_69 : decode cX9_occurrencesIn 69 = .ok (.iinc 3 (-1), 3) := by decide +kernel
theorem dX9_occurrencesIn_72 : decode cX9_occurrencesIn 72 = .ok (.goto (-42), 3) := by decide +kernel
theorem dX9_occurrencesIn_75 : decode cX9_occurrencesIn 75 = .ok (.iinc 2 1, 3) := by decide +kernel
theorem dX9_occurrencesIn_78 : decode cX9_occurrencesIn 78 = .ok (.goto (-61), 3) := by decide +kernel
theorem dX9_occurrencesIn_81 : decode cX9_occurrencesIn 81 = .ok (.aload_n 0, 1) := by decide +kernel
theorem dX9_occurrencesIn_82 : decode cX9_occurrencesIn 82 = .ok (.getfield 19, 3) := by decide +kernel
theorem dX9_occurrencesIn_85 : decode cX9_occurrencesIn 85 = .ok (.aload_n 0, 1) := by decide +kernel
theorem dX9_occurrencesIn_86 : decode cX9_occurrencesIn 86 = .ok (.getfield 15, 3) := by decide +kernel
theorem dX9_occurrencesIn_89 : decode cX9_occurrencesIn 89 = .ok (.iaload, 1) := by decide +kernel
theorem dX9_occurrencesIn_90 : decode cX9_occurrencesIn 90 = .ok (.ireturn, 1) := by decide +kernel
theorem dX10_init_0 : decode cX10_init 0 = .ok (.aload_n 0, 1) := by decide +kernel
theorem dX10_init_1 : decode cX10_init 1 = .ok (.invokespecial 1, 3) := by decide +kernel
theorem dX10_init_4 : decode cX10_init 4 = .ok (.aload_n 0, 1) := by decide +kernel
theorem dX10_init_5 : decode cX10_init 5 = .ok (.sipush 2187, 3) := by decide +kernel
theorem dX10_init_8 : decode cX10_init 8 = .ok (.newarray .long, 2) := by decide +kernel
theorem dX10_init_10 : decode cX10_init 10 = .ok (.putfield 9, 3) := by decide +kernel
theorem dX10_init_13 : decode cX10_init 13 = .ok (.aload_n 0, 1) := by decide +kernel
theorem dX10_init_14 : decode cX10_init 14 = .ok (.sipush 2187, 3) := by decide +kernel
theorem dX10_init_17 : decode cX10_init 17 = .ok (.newarray .long, 2) := by decide +kernel
theorem dX10_init_19 : decode cX10_init 19 = .ok (.putfield 13, 3) := by decide +kernel
theorem dX10_init_22 : decode cX10_init 22 = .ok (.aload_n 0, 1) := by decide +kernel
theorem dX10_init_23 : decode cX10_init 23 = .ok (.sipush 2187, 3) := by decide +kernel
theorem dX10_init_26 : decode cX10_init 26 = .ok (.newarray .int, 2) := by decide +kernel
theorem dX10_init_28 : decode cX10_init 28 = .ok (.putfield 16, 3) := by decide +kernel
theorem dX10_init_31 : decode cX10_init 31 = .ok (.aload_n 0, 1) := by decide +kernel
theorem dX10_init_32 : decode cX10_init 32 = .ok (.sipush 4096, 3) := by decide +kernel
theorem dX10_init_35 : decode cX10_init 35 = .ok (.newarray .int, 2) := by decide +kernel
theorem dX10_init_37 : decode cX10_init 37 = .ok (.putfield 20, 3) := by decide +kernel
theorem dX10_init_40 : decode cX10_init 40 = .ok (.aload_n 0, 1) := by decide +kernel
theorem dX10_init_41 : decode cX10_init 41 = .ok (.iconst 0, 1) := by decide +kernel
theorem dX10_init_42 : decode cX10_init 42 = .ok (.putfield 23, 3) := by decide +kernel
theorem dX10_init_45 : decode cX10_init 45 = .ok (.aload_n 0, 1) := by decide +kernel
theorem dX10_init_46 : decode cX10_init 46 = .ok (.iconst 0, 1) := by decide +kernel
theorem dX10_init_47 : decode cX10_init 47 = .ok (.putfield 27, 3) := by decide +kernel
theorem dX10_init_50 : decode cX10_init 50 = .ok (.aload_n 0, 1) := by decide +kernel
theorem dX10_init_51 : decode cX10_init 51 = .ok (.iconst 0, 1) := by decide +kernel
theorem dX10_init_52 : decode cX10_init 52 = .ok (.putfield 30, 3) := by decide +kernel
theorem dX10_init_55 : decode cX10_init 55 = .ok (.return_, 1) := by decide +kernel
set_option maxRecDepth 20000 in
theorem ggX10_list_X10_start : GoodIn wsX10_list wsX10_start := goodIn_r _ [5, 6, 7, 8, 56, 57, 58, 59, 60, 61, 62] (by decide +kernel) (by decide +kernel)
set_option maxRecDepth 20000 in
theorem gX10_list_X10_start : GoodIn wsX10_list (wsV RX10 33 RX10 yX10_start wsX10_start) := goodIn_app (goodIn_of _ (by decide +kernel)) ggX10_list_X10_start
set_option maxRecDepth 20000 in
theorem ggX10_list_X10_lengthen : GoodIn wsX10_list wsX10_lengthen := goodIn_r _ [12, 8, 6, 7, 13, 14, 15, 16, 17, 18, 19, 20, 21, 22, 23, 24, 25, 26, 27, 28, 29, 30, 31, 32, 33, 34, 35, 36, 37, 56, 57, 58, 59, 60, 61, 62, 63, 64, 65, 66, 67, 68, 69] (by decide +kernel) (by decide +kernel)
set_option maxRecDepth 20000 in
theorem gX10_list_X10_lengthen : GoodIn wsX10_list (wsV RX10 36 RX10 yX10_lengthen wsX10_lengthen) := goodIn_app (goodIn_of _ (by decide +kernel)) ggX10_list_X10_lengthen
set_option maxRecDepth 20000 in
theorem ggX10_list_X10_sign : GoodIn wsX10_list wsX10_sign := goodIn_r _ [41, 8, 42, 6, 7, 43, 44, 45, 16, 46, 18, 20, 47, 48, 49, 50, 51, 19, 52, 53, 54, 24, 55, 26, 27, 56, 57, 58, 59, 60, 61, 62, 63, 64, 65, 66, 67, 68, 69] (by decide +kernel) (by decide +kernel)
set_option maxRecDepth 20000 in
theorem gX10_list_X10_sign : GoodIn wsX10_list (wsV RX10 40 RX10 yX10_sign wsX10_sign) := goodIn_app (goodIn_of _ (by decide +kernel)) ggX10_list_X10_sign
theorem dX10_list_0 : decode cX10_list 0 = .ok (.aload_n 0, 1) := by decide +kernel
theorem dX10_list_1 : decode cX10_list 1 = .ok (.invokevirtual 33, 3) := by decide +kernel
theorem dX10_list_4 : decode cX10_list 4 = .ok (.iconst 0, 1) := by decide +kernel
theorem dX10_list_5 : decode cX10_list 5 = .ok (.istore 4, 2) := by decide +kernel
theorem dX10_list_7 : decode cX10_list 7 = .ok (.iload 4, 2) := by decide +kernel
theorem dX10_list_9 : decode cX10_list 9 = .ok (.iload_n 3, 1) := by decide +kernel
theorem dX10_list_10 : decode cX10_list 10 = .ok (.if_icmp .ge 15, 3) := by decide +kernel
theorem dX10_list_13 : decode cX10_list 13 = .ok (.aload_n 0, 1) := by decide +kernel
theorem dX10_list_14 : decode cX10_list 14 = .ok (.aload_n 1, 1) := by decide +kernel
theorem dX10_list_15 : decode cX10_list 15 = .ok (.iload_n 2, 1) := by decide +kernel
theorem dX10_list_16 : decode cX10_list 16 = .ok (.invokevirtual 36, 3) := by decide +kernel
theorem dX10_list_19 : decode cX10_list 19 = .ok (.iinc 4 1, 3) := by decide +kernel
theorem dX10_list_22 : decode cX10_list 22 = .ok (.goto (-15), 3) := by decide +kernel
theorem dX10_list_25 : decode cX10_list 25 = .ok (.aload_n 0, 1) := by decide +kernel
theorem dX10_list_26 : decode cX10_list 26 = .ok (.aload_n 1, 1) := by decide +kernel
theorem dX10_list_27 : decode cX10_list 27 = .ok (.invokevirtual 40, 3) := by decide +kernel
theorem dX10_list_30 : decode cX10_list 30 = .ok (.return_, 1) := by decide +kernel
theorem dX10_start_0 : decode cX10_start 0 = .ok (.aload_n 0, 1) := by decide +kernel
theorem dX10_start_1 : decode cX10_start 1 = .ok (.getfield 9, 3) := by decide +kernel
theorem dX10_start_4 : decode cX10_start 4 = .ok (.iconst 0, 1) := by decide +kernel
theorem dX10_start_5 : decode cX10_start 5 = .ok (.lconst 0, 1) := by decide +kernel
theorem dX10_start_6 : decode cX10_start 6 = .ok (.lastore, 1) := by decide +kernel
theorem dX10_start_7 : decode cX10_start 7 = .ok (.aload_n 0, 1) := by decide +kernel
theorem dX10_start_8 : decode cX10_start 8 = .ok (.getfield 13, 3) := by decide +kernel
theorem dX10_start_11 : decode cX10_start 11 = .ok (.iconst 0, 1) := by decide +kernel
theorem dX10_start_12 : decode cX10_start 12 = .ok (.lconst 0, 1) := by decide +kernel
theorem dX10_start_13 : decode cX10_start 13 = .ok (.lastore, 1) := by decide +kernel
theorem dX10_start_14 : decode cX10_start 14 = .ok (.aload_n 0, 1) := by decide +kernel
theorem dX10_start_15 : decode cX10_start 15 = .ok (.iconst 1, 1) := by decide +kernel
theorem dX10_start_16 : decode cX10_start 16 = .ok (.putfield 23, 3) := by decide +kernel
theorem dX10_start_19 : decode cX10_start 19 = .ok (.return_, 1) := by decide +kernel
set_option maxRecDepth 20000 in
theorem ggX10_lengthen_X1_step : GoodIn wsX10_lengthen wsX1_step := goodIn_r _ [8, 9, 10, 11, 12, 13, 14, 15, 16, 17, 18, 19, 20, 21, 22, 23, 24, 25, 26, 27, 28, 36, 37, 38, 39, 40, 41, 42] (by decide +kernel) (by decide +kernel)
set_option maxRecDepth 20000 in
theorem gX10_lengthen_X1_step : GoodIn wsX10_lengthen (wsV RX10 44 RX1 yX1_step wsX1_step) := goodIn_app (goodIn_of _ (by decide +kernel)) ggX10_lengthen_X1_step
theorem dX10_lengthen_0 : decode cX10_lengthen 0 = .ok (.aload_n 0, 1) := by decide +kernel
theorem dX10_lengthen_1 : decode cX10_lengthen 1 = .ok (.getfield 23, 3) := by decide +kernel
theorem dX10_lengthen_4 : decode cX10_lengthen 4 = .ok (.iload_n 2, 1) := by decide +kernel
theorem dX10_lengthen_5 : decode cX10_lengthen 5 = .ok (.imul, 1) := by decide +kernel
theorem dX10_lengthen_6 : decode cX10_lengthen 6 = .ok (.sipush 2187, 3) := by decide +kernel
theorem dX10_lengthen_9 : decode cX10_lengthen 9 = .ok (.if_icmp .le 4, 3) := by decide +kernel
theorem dX10_lengthen_12 : decode cX10_lengthen 12 = .ok (.return_, 1) := by decide +kernel
theorem dX10_lengthen_13 : decode cX10_lengthen 13 = .ok (.aload_n 0, 1) := by decide +kernel
theorem dX10_lengthen_14 : decode cX10_lengthen 14 = .ok (.getfield 23, 3) := by decide +kernel
theorem dX10_lengthen_17 : decode cX10_lengthen 17 = .ok (.iconst 1, 1) := by decide +kernel
theorem dX10_lengthen_18 : decode cX10_lengthen 18 = .ok (.isub, 1) := by decide +kernel
theorem dX10_lengthen_19 : decode cX10_lengthen 19 = .ok (.istore_n 3, 1) := by decide +kernel
theorem dX10_lengthen_20 : decode cX10_lengthen 20 = .ok (.iload_n 3, 1) := by decide +kernel
theorem dX10_lengthen_21 : decode cX10_lengthen 21 = .ok (.ifCond .lt 80, 3) := by decide +kernel
theorem dX10_lengthen_24 : decode cX10_lengthen 24 = .ok (.aload_n 0, 1) := by decide +kernel
theorem dX10_lengthen_25 : decode cX10_lengthen 25 = .ok (.getfield 9, 3) := by decide +kernel
theorem dX10_lengthen_28 : decode cX10_lengthen 28 = .ok (.iload_n 3, 1) := by decide +kernel
theorem dX10_lengthen_29 : decode cX10_lengthen 29 = .ok (.laload, 1) := by decide +kernel
theorem dX10_lengthen_30 : decode cX10_lengthen 30 = .ok (.lstore 4, 2) := by decide +kernel
theorem dX10_lengthen_32 : decode cX10_lengthen 32 = .ok (.aload_n 0, 1) := by decide +kernel
theorem dX10_lengthen_33 : decode cX10_lengthen 33 = .ok (.getfield 13, 3) := by decide +kernel
theorem dX10_lengthen_36 : decode cX10_lengthen 36 = .ok (.iload_n 3, 1) := by decide +kernel
theorem dX10_lengthen_37 : decode cX10_lengthen 37 = .ok (.laload, 1) := by decide +kernel
theorem dX10_lengthen_38 : decode cX10_lengthen 38 = .ok (.lstore 6, 2) := by decide +kernel
theorem dX10_lengthen_40 : decode cX10_lengthen 40 = .ok (.iconst 0, 1) := by decide +kernel
theorem dX10_lengthen_41 : decode cX10_lengthen 41 = .ok (.istore 8, 2) := by decide +kernel
theorem dX10_lengthen_43 : decode cX10_lengthen 43 = .ok (.iload 8, 2) := by decide +kernel
theorem dX10_lengthen_45 : decode cX10_lengthen 45 = .ok (.iload_n 2, 1) := by decide +kernel
theorem dX10_lengthen_46 : decode cX10_lengthen 46 = .ok (.if_icmp .ge 49, 3) := by decide +kernel
theorem dX10_lengthen_49 : decode cX10_lengthen 49 = .ok (.aload_n 0, 1) := by decide +kernel
theorem dX10_lengthen_50 : decode cX10_lengthen 50 = .ok (.getfield 9, 3) := by decide +kernel
theorem dX10_lengthen_53 : decode cX10_lengthen 53 = .ok (.iload_n 3, 1) := by decide +kernel
theorem dX10_lengthen_54 : decode cX10_lengthen 54 = .ok (.iload_n 2, 1) := by decide +kernel
theorem dX10_lengthen_55 : decode cX10_lengthen 55 = .ok (.imul, 1) := by decide +kernel
theorem dX10_lengthen_56 : decode cX10_lengthen 56 = .ok (.iload 8, 2) := by decide +kernel
theorem dX10_lengthen_58 : decode cX10_lengthen 58 = .ok (.iadd, 1) := by decide +kernel
theorem dX10_lengthen_59 : decode cX10_lengthen 59 = .ok (.aload_n 1, 1) := by decide +kernel
theorem dX10_lengthen_60 : decode cX10_lengthen 60 = .ok (.iconst 0, 1) := by decide +kernel
theorem dX10_lengthen_61 : decode cX10_lengthen 61 = .ok (.lload 4, 2) := by decide +kernel
theorem dX10_lengthen_63 : decode cX10_lengthen 63 = .ok (.iload 8, 2) := by decide +kernel
theorem dX10_lengthen_65 : decode cX10_lengthen 65 = .ok (.invokevirtual 44, 3) := by decide +kernel
theorem dX10_lengthen_68 : decode cX10_lengthen 68 = .ok (.lastore, 1) := by decide +kernel
theorem dX10_lengthen_69 : decode cX10_lengthen 69 = .ok (.aload_n 0, 1) := by decide +kernel
theorem dX10_lengthen_70 : decode cX10_lengthen 70 = .ok (.getfield 13, 3) := by decide +kernel
theorem dX10_lengthen_73 : decode cX10_lengthen 73 = .ok (.iload_n 3, 1) := by decide +kernel
theorem dX10_lengthen_74 : decode cX10_lengthen 74 = .ok (.iload_n 2, 1) := by decide +kernel
theorem dX10_lengthen_75 : decode cX10_lengthen 75 = .ok (.imul, 1) := by decide +kernel
theorem dX10_lengthen_76 : decode cX10_lengthen 76 = .ok (.iload 8, 2) := by decide +kernel
theorem dX10_lengthen_78 : decode cX10_lengthen 78 = .ok (.iadd, 1) := by decide +kernel
theorem dX10_lengthen_79 : decode cX10_lengthen 79 = .ok (.aload_n 1, 1) := by decide +kernel
theorem dX10_lengthen_80 : decode cX10_lengthen 80 = .ok (.iconst 1, 1) := by decide +kernel
theorem dX10_lengthen_81 : decode cX10_lengthen 81 = .ok (.lload 6, 2) := by decide +kernel
theorem dX10_lengthen_83 : decode cX10_lengthen 83 = .ok (.iload 8, 2) := by decide +kernel
theorem dX10_lengthen_85 : decode cX10_lengthen 85 = .ok (.invokevirtual 44, 3) := by decide +kernel
theorem dX10_lengthen_88 : decode cX10_lengthen 88 = .ok (.lastore, 1) := by decide +kernel
theorem dX10_lengthen_89 : decode cX10_lengthen 89 = .ok (.iinc 8 1, 3) := by decide +kernel
theorem dX10_lengthen_92 : decode cX10_lengthen 92 = .ok (.goto (-49), 3) := by decide +kernel
theorem dX10_lengthen_95 : decode cX10_lengthen 95 = .ok (.iinc 3 (-1), 3) := by decide +kernel
theorem dX10_lengthen_98 : decode cX10_lengthen 98 = .ok (.goto (-78), 3) := by decide +kernel
theorem dX10_lengthen_101 : decode cX10_lengthen 101 = .ok (.aload_n 0, 1) := by decide +kernel
theorem dX10_lengthen_102 : decode cX10_lengthen 102 = .ok (.dup, 1) := by decide +kernel
theorem dX10_lengthen_103 : decode cX10_lengthen 103 = .ok (.getfield 23, 3) := by decide +kernel
theorem dX10_lengthen_106 : decode cX10_lengthen 106 = .ok (.iload_n 2, 1) := by decide +kernel
theorem dX10_lengthen_107 : decode cX10_lengthen 107 = .ok (.imul, 1) := by decide +kernel
theorem dX10_lengthen_108 : decode cX10_lengthen 108 = .ok (.putfield 23, 3) := by decide +kernel
theorem dX10_lengthen_111 : decode cX10_lengthen 111 = .ok (.return_, 1) := by decide +kernel
set_option maxRecDepth 20000 in
theorem ggX10_sign_X1_signatureAt : GoodIn wsX10_sign wsX1_signatureAt := goodIn_r _ [9, 10, 11, 12, 13, 14, 15, 8, 16, 17, 18, 19, 20, 21, 22, 23, 24, 32, 33, 34, 35, 36, 37, 38] (by decide +kernel) (by decide +kernel)
set_option maxRecDepth 20000 in
theorem gX10_sign_X1_signatureAt : GoodIn wsX10_sign (wsV RX10 50 RX1 yX1_signatureAt wsX1_signatureAt) := goodIn_app (goodIn_of _ (by decide +kernel)) ggX10_sign_X1_signatureAt
theorem dX10_sign_0 : decode cX10_sign 0 = .ok (.iconst 0, 1) := by decide +kernel
theorem dX10_sign_1 : decode cX10_sign 1 = .ok (.istore_n 2, 1) := by decide +kernel
theorem dX10_sign_2 : decode cX10_sign 2 = .ok (.iload_n 2, 1) := by decide +kernel
theorem dX10_sign_3 : decode cX10_sign 3 = .ok (.aload_n 0, 1) := by decide +kernel
theorem dX10_sign_4 : decode cX10_sign 4 = .ok (.getfield 23, 3) := by decide +kernel
theorem dX10_sign_7 : decode cX10_sign 7 = .ok (.if_icmp .ge 31, 3) := by decide +kernel
theorem dX10_sign_10 : decode cX10_sign 10 = .ok (.aload_n 0, 1) := by decide +kernel
theorem dX10_sign_11 : decode cX10_sign 11 = .ok (.getfield 16, 3) := by decide +kernel
theorem dX10_sign_14 : decode cX10_sign 14 = .ok (.iload_n 2, 1) := by decide +kernel
theorem dX10_sign_15 : decode cX10_sign 15 = .ok (.aload_n 1, 1) := by decide +kernel
theorem dX10_sign_16 : decode cX10_sign 16 = .ok (.aload_n 0, 1) := by decide +kernel
theorem dX10_sign_17 : decode cX10_sign 17 = .ok (.getfield 9, 3) := by decide +kernel
theorem dX10_sign_20 : decode cX10_sign 20 = .ok (.iload_n 2, 1) := by decide +kernel
theorem dX10_sign_21 : decode cX10_sign 21 = .ok (.laload, 1) := by decide +kernel
theorem dX10_sign_22 : decode cX10_sign 22 = .ok (.aload_n 0, 1) := by decide +kernel
theorem dX10_sign_23 : decode cX10_sign 23 = .ok (.getfield 13, 3) := by decide +kernel
theorem dX10_sign_26 : decode cX10_sign 26 = .ok (.iload_n 2, 1) := by decide +kernel
theorem dX10_sign_27 : decode cX10_sign 27 = .ok (.laload, 1) := by decide +kernel
theorem dX10_sign_28 : decode cX10_sign 28 = .ok (.invokevirtual 50, 3) := by decide +kernel
theorem dX10_sign_31 : decode cX10_sign 31 = .ok (.iastore, 1) := by decide +kernel
theorem dX10_sign_32 : decode cX10_sign 32 = .ok (.iinc 2 1, 3) := by decide +kernel
theorem dX10_sign_35 : decode cX10_sign 35 = .ok (.goto (-33), 3) := by decide +kernel
theorem dX10_sign_38 : decode cX10_sign 38 = .ok (.return_, 1) := by decide +kernel
theorem dX10_wordsWith_0 : decode cX10_wordsWith 0 = .ok (.iconst 0, 1) := by decide +kernel
theorem dX10_wordsWith_1 : decode cX10_wordsWith 1 = .ok (.istore_n 2, 1) := by decide +kernel
theorem dX10_wordsWith_2 : decode cX10_wordsWith 2 = .ok (.iconst 0, 1) := by decide +kernel
theorem dX10_wordsWith_3 : decode cX10_wordsWith 3 = .ok (.istore_n 3, 1) := by decide +kernel
theorem dX10_wordsWith_4 : decode cX10_wordsWith 4 = .ok (.iload_n 3, 1) := by decide +kernel
theorem dX10_wordsWith_5 : decode cX10_wordsWith 5 = .ok (.aload_n 0, 1) := by decide +kernel
theorem dX10_wordsWith_6 : decode cX10_wordsWith 6 = .ok (.getfield 23, 3) := by decide +kernel
theorem dX10_wordsWith_9 : decode cX10_wordsWith 9 = .ok (.if_icmp .ge 22, 3) := by decide +kernel
theorem dX10_wordsWith_12 : decode cX10_wordsWith 12 = .ok (.aload_n 0, 1) := by decide +kernel
theorem dX10_wordsWith_13 : decode cX10_wordsWith 13 = .ok (.getfield 16, 3) := by decide +kernel
theorem dX10_wordsWith_16 : decode cX10_wordsWith 16 = .ok (.iload_n 3, 1) := by decide +kernel
theorem dX10_wordsWith_17 : decode cX10_wordsWith 17 = .ok (.iaload, 1) := by decide +kernel
theorem dX10_wordsWith_18 : decode cX10_wordsWith 18 = .ok (.iload_n 1, 1) := by decide +kernel
theorem dX10_wordsWith_19 : decode cX10_wordsWith 19 = .ok (.if_icmp .ne 6, 3) := by decide +kernel
theorem dX10_wordsWith_22 : decode cX10_wordsWith 22 = .ok (.iinc 2 1, 3) := by decide +kernel
theorem dX10_wordsWith_25 : decode cX10_wordsWith 25 = .ok (.iinc 3 1, 3) := by decide +kernel
theorem dX10_wordsWith_28 : decode cX10_wordsWith 28 = .ok (.goto (-24), 3) := by decide +kernel
theorem dX10_wordsWith_31 : decode cX10_wordsWith 31 = .ok (.iload_n 2, 1) := by decide +kernel
theorem dX10_wordsWith_32 : decode cX10_wordsWith 32 = .ok (.ireturn, 1) := by decide +kernel
set_option maxRecDepth 20000 in
theorem ggX10_distinctSignatures_J7_fill_53178 : GoodIn wsX10_distinctSignatures wsJ7_fill_53178 := goodIn_r _ [6] (by decide +kernel) (by decide +kernel)
set_option maxRecDepth 20000 in
theorem gX10_distinctSignatures_J7_fill_53178 : GoodIn wsX10_distinctSignatures (va_wsS RX10 54 yJ7_fill_53178 wsJ7_fill_53178) := goodIn_app (goodIn_of _ (by decide +kernel)) ggX10_distinctSignatures_J7_fill_53178
set_option maxRecDepth 20000 in
theorem ggX10_distinctSignatures_X10_firstWithSignatureOf : GoodIn wsX10_distinctSignatures wsX10_firstWithSignatureOf := goodIn_r _ [11, 12, 13, 1, 14, 15, 16, 17, 18, 19, 20] (by decide +kernel) (by decide +kernel)
set_option maxRecDepth 20000 in
theorem gX10_distinctSignatures_X10_firstWithSignatureOf : GoodIn wsX10_distinctSignatures (wsV RX10 60 RX10 yX10_firstWithSignatureOf wsX10_firstWithSignatureOf) := goodIn_app (goodIn_of _ (by decide +kernel)) ggX10_distinctSignatures_X10_firstWithSignatureOf
theorem dX10_distinctSignatures_0 : decode cX10_distinctSignatures 0 = .ok (.aload_n 0, 1) := by decide +kernel
theorem dX10_distinctSignatures_1 : decode cX10_distinctSignatures 1 = .ok (.getfield 20, 3) := by decide +kernel
theorem dX10_distinctSignatures_4 : decode cX10_distinctSignatures 4 = .ok (.iconst (-1), 1) := by decide +kernel
theorem dX10_distinctSignatures_5 : decode cX10_distinctSignatures 5 = .ok (.invokestatic 54, 3) := by decide +kernel
theorem dX10_distinctSignatures_8 : decode cX10_distinctSignatures 8 = .ok (.iconst 0, 1) := by decide +kernel
theorem dX10_distinctSignatures_9 : decode cX10_distinctSignatures 9 = .ok (.istore_n 1, 1) := by decide +kernel
theorem dX10_distinctSignatures_10 : decode cX10_distinctSignatures 10 = .ok (.iconst 0, 1) := by decide +kernel
theorem dX10_distinctSignatures_11 : decode cX10_distinctSignatures 11 = .ok (.istore_n 2, 1) := by decide +kernel
theorem dX10_distinctSignatures_12 : decode cX10_distinctSignatures 12 = .ok (.iload_n 2, 1) := by decide +kernel
theorem dX10_distinctSignatures_13 : decode cX10_distinctSignatures 13 = .ok (.aload_n 0, 1) := by decide +kernel
theorem dX10_distinctSignatures_14 : decode cX10_distinctSignatures 14 = .ok (.getfield 23, 3) := by decide +kernel
theorem dX10_distinctSignatures_17 : decode cX10_distinctSignatures 17 = .ok (.if_icmp .ge 21, 3) := by decide +kernel
theorem dX10_distinctSignatures_20 : decode cX10_distinctSignatures 20 = .ok (.aload_n 0, 1) := by decide +kernel
theorem dX10_distinctSignatures_21 : decode cX10_distinctSignatures 21 = .ok (.iload_n 2, 1) := by decide +kernel
theorem dX10_distinctSignatures_22 : decode cX10_distinctSignatures 22 = .ok (.invokevirtual 60, 3) := by decide +kernel
theorem dX10_distinctSignatures_25 : decode cX10_distinctSignatures 25 = .ok (.iload_n 2, 1) := by decide +kernel
theorem dX10_distinctSignatures_26 : decode cX10_distinctSignatures 26 = .ok (.if_icmp .ne 6, 3) := by decide +kernel
theorem dX10_distinctSignatures_29 : decode cX10_distinctSignatures 29 = .ok (.iinc 1 1, 3) := by decide +kernel
theorem dX10_distinctSignatures_32 : decode cX10_distinctSignatures 32 = .ok (.iinc 2 1, 3) := by decide +kernel
theorem dX10_distinctSignatures_35 : decode cX10_distinctSignatures 35 = .ok (.goto (-23), 3) := by decide +kernel
theorem dX10_distinctSignatures_38 : decode cX10_distinctSignatures 38 = .ok (.iload_n 1, 1) := by decide +kernel
theorem dX10_distinctSignatures_39 : decode cX10_distinctSignatures 39 = .ok (.ireturn, 1) := by decide +kernel
set_option maxRecDepth 20000 in
theorem ggX10_findPair_J7_fill_53178 : GoodIn wsX10_findPair wsJ7_fill_53178 := goodIn_r _ [8] (by decide +kernel) (by decide +kernel)
set_option maxRecDepth 20000 in
theorem gX10_findPair_J7_fill_53178 : GoodIn wsX10_findPair (va_wsS RX10 54 yJ7_fill_53178 wsJ7_fill_53178) := goodIn_app (goodIn_of _ (by decide +kernel)) ggX10_findPair_J7_fill_53178
set_option maxRecDepth 20000 in
theorem ggX10_findPair_X10_firstWithSignatureOf : GoodIn wsX10_findPair wsX10_firstWithSignatureOf := goodIn_r _ [13, 14, 15, 1, 16, 17, 18, 19, 20, 21, 22] (by decide +kernel) (by decide +kernel)
set_option maxRecDepth 20000 in
theorem gX10_findPair_X10_firstWithSignatureOf : GoodIn wsX10_findPair (wsV RX10 60 RX10 yX10_firstWithSignatureOf wsX10_firstWithSignatureOf) := goodIn_app (goodIn_of _ (by decide +kernel)) ggX10_findPair_X10_firstWithSignatureOf
theorem dX10_findPair_0 : decode cX10_findPair 0 = .ok (.aload_n 0, 1) := by decide +kernel
theorem dX10_findPair_1 : decode cX10_findPair 1 = .ok (.getfield 20, 3) := by decide +kernel
theorem dX10_findPair_4 : decode cX10_findPair 4 = .ok (.iconst (-1), 1) := by decide +kernel
theorem dX10_findPair_5 : decode cX10_findPair 5 = .ok (.invokestatic 54, 3) := by decide +kernel
theorem dX10_findPair_8 : decode cX10_findPair 8 = .ok (.aload_n 0, 1) := by decide +kernel
theorem dX10_findPair_9 : decode cX10_findPair 9 = .ok (.aload_n 0, 1) := by decide +kernel
theorem dX10_findPair_10 : decode cX10_findPair 10 = .ok (.getfield 23, 3) := by decide +kernel
theorem dX10_findPair_13 : decode cX10_findPair 13 = .ok (.putfield 27, 3) := by decide +kernel
theorem dX10_findPair_16 : decode cX10_findPair 16 = .ok (.iconst 0, 1) := by decide +kernel
theorem dX10_findPair_17 : decode cX10_findPair 17 = .ok (.istore_n 1, 1) := by decide +kernel
theorem dX10_findPair_18 : decode cX10_findPair 18 = .ok (.iload_n 1, 1) := by decide +kernel
theorem dX10_findPair_19 : decode cX10_findPair 19 = .ok (.aload_n 0, 1) := by decide +kernel
theorem dX10_findPair_20 : decode cX10_findPair 20 = .ok (.getfield 23, 3) := by decide +kernel
theorem dX10_findPair_23 : decode cX10_findPair 23 = .ok (.if_icmp .ge 38, 3) := by decide +kernel
theorem dX10_findPair_26 : decode cX10_findPair 26 = .ok (.aload_n 0, 1) := by decide +kernel
theorem dX10_findPair_27 : decode cX10_findPair 27 = .ok (.iload_n 1, 1) := by decide +kernel
theorem dX10_findPair_28 : decode cX10_findPair 28 = .ok (.invokevirtual 60, 3) := by decide +kernel
theorem dX10_findPair_31 : decode cX10_findPair 31 = .ok (.istore_n 2, 1) := by decide +kernel
theorem dX10_findPair_32 : decode cX10_findPair 32 = .ok (.iload_n 2, 1) := by decide +kernel
theorem dX10_findPair_33 : decode cX10_findPair 33 = .ok (.iload_n 1, 1) := by decide +kernel
theorem dX10_findPair_34 : decode cX10_findPair 34 = .ok (.if_icmp .ge 21, 3) := by decide +kernel
theorem dX10_findPair_37 : decode cX10_findPair 37 = .ok (.iload_n 2, 1) := by decide +kernel
theorem dX10_findPair_38 : decode cX10_findPair 38 = .ok (.aload_n 0, 1) := by decide +kernel
theorem dX10_findPair_39 : decode cX10_findPair 39 = .ok (.getfield 27, 3) := by decide +kernel
theorem dX10_findPair_42 : decode cX10_findPair 42 = .ok (.if_icmp .ge 13, 3) := by decide +kernel
theorem dX10_findPair_45 : decode cX10_findPair 45 = .ok (.aload_n 0, 1) := by decide +kernel
theorem dX10_findPair_46 : decode cX10_findPair 46 = .ok (.iload_n 2, 1) := by decide +kernel
theorem dX10_findPair_47 : decode cX10_findPair 47 = .ok (.putfield 27, 3) := by decide +kernel
theorem dX10_findPair_50 : decode cX10_findPair 50 = .ok (.aload_n 0, 1) := by decide +kernel
theorem dX10_findPair_51 : decode cX10_findPair 51 = .ok (.iload_n 1, 1) := by decide +kernel
theorem dX10_findPair_52 : decode cX10_findPair 52 = .ok (.putfield 30, 3) := by decide +kernel
theorem dX10_findPair_55 : decode cX10_findPair 55 = .ok (.iinc 1 1, 3) := by decide +kernel
theorem dX10_findPair_58 : decode cX10_findPair 58 = .ok (.goto (-40), 3) := by decide +kernel
theorem dX10_findPair_61 : decode cX10_findPair 61 = .ok (.aload_n 0, 1) := by decide +kernel
theorem dX10_findPair_62 : decode cX10_findPair 62 = .ok (.getfield 27, 3) := by decide +kernel
theorem dX10_findPair_65 : decode cX10_findPair 65 = .ok (.aload_n 0, 1) := by decide +kernel
theorem dX10_findPair_66 : decode cX10_findPair 66 = .ok (.getfield 23, 3) := by decide +kernel
theorem dX10_findPair_69 : decode cX10_findPair 69 = .ok (.if_icmp .ge 7, 3) := by decide +kernel
theorem dX10_findPair_72 : decode cX10_findPair 72 = .ok (.iconst 1, 1) := by decide +kernel
theorem dX10_findPair_73 : decode cX10_findPair 73 = .ok (.goto 4, 3) := by decide +kernel
theorem dX10_findPair_76 : decode cX10_findPair 76 = .ok (.iconst 0, 1) := by decide +kernel
theorem dX10_findPair_77 : decode cX10_findPair 77 = .ok (.ireturn, 1) := by decide +kernel
theorem dX10_firstWithSignatureOf_0 : decode cX10_firstWithSignatureOf 0 = .ok (.aload_n 0, 1) := by decide +kernel
theorem dX10_firstWithSignatureOf_1 : decode cX10_firstWithSignatureOf 1 = .ok (.getfield 16, 3) := by decide +kernel
theorem dX10_firstWithSignatureOf_4 : decode cX10_firstWithSignatureOf 4 = .ok (.iload_n 1, 1) := by decide +kernel
theorem dX10_firstWithSignatureOf_5 : decode cX10_firstWithSignatureOf 5 = .ok (.iaload, 1) := by decide +kernel
theorem dX10_firstWithSignatureOf_6 : decode cX10_firstWithSignatureOf 6 = .ok (.ldc 64, 2) := by decide +kernel
theorem dX10_firstWithSignatureOf_8 : decode cX10_firstWithSignatureOf 8 = .ok (.imul, 1) := by decide +kernel
theorem dX10_firstWithSignatureOf_9 : decode cX10_firstWithSignatureOf 9 = .ok (.bipush 20, 2) := by decide +kernel
theorem dX10_firstWithSignatureOf_11 : decode cX10_firstWithSignatureOf 11 = .ok (.iushr, 1) := by decide +kernel
theorem dX10_firstWithSignatureOf_12 : decode cX10_firstWithSignatureOf 12 = .ok (.istore_n 2, 1) := by decide +kernel
theorem dX10_firstWithSignatureOf_13 : decode cX10_firstWithSignatureOf 13 = .ok (.iconst 0, 1) := by decide +kernel
theorem dX10_firstWithSignatureOf_14 : decode cX10_firstWithSignatureOf 14 = .ok (.istore_n 3, 1) := by decide +kernel
theorem dX10_firstWithSignatureOf_15 : decode cX10_firstWithSignatureOf 15 = .ok (.iload_n 3, 1) := by decide +kernel
theorem dX10_firstWithSignatureOf_16 : decode cX10_firstWithSignatureOf 16 = .ok (.sipush 4096, 3) := by decide +kernel
theorem dX10_firstWithSignatureOf_19 : decode cX10_firstWithSignatureOf 19 = .ok (.if_icmp .ge 67, 3) := by decide +kernel
theorem dX10_firstWithSignatureOf_22 : decode cX10_firstWithSignatureOf 22 = .ok (.iload_n 2, 1) := by decide +kernel
theorem dX10_firstWithSignatureOf_23 : decode cX10_firstWithSignatureOf 23 = .ok (.iload_n 3, 1) := by decide +kernel
theorem dX10_firstWithSignatureOf_24 : decode cX10_firstWithSignatureOf 24 = .ok (.iadd, 1) := by decide +kernel
theorem dX10_firstWithSignatureOf_25 : decode cX10_firstWithSignatureOf 25 = .ok (.sipush 4095, 3) := by decide +kernel
theorem dX10_firstWithSignatureOf_28 : decode cX10_firstWithSignatureOf 28 = .ok (.iand, 1) := by decide +kernel
theorem dX10_firstWithSignatureOf_29 : decode cX10_firstWithSignatureOf 29 = .ok (.istore 4, 2) := by decide +kernel
theorem dX10_firstWithSignatureOf_31 : decode cX10_firstWithSignatureOf 31 = .ok (.aload_n 0, 1) := by decide +kernel
theorem dX10_firstWithSignatureOf_32 : decode cX10_firstWithSignatureOf 32 = .ok (.getfield 20, 3) := by decide +kernel
theorem dX10_firstWithSignatureOf_35 : decode cX10_firstWithSignatureOf 35 = .ok (.iload 4, 2) := by decide +kernel
theorem dX10_firstWithSignatureOf_37 : decode cX10_firstWithSignatureOf 37 = .ok (.iaload, 1) := by decide +kernel
theorem dX10_firstWithSignatureOf_38 : decode cX10_firstWithSignatureOf 38 = .ok (.ifCond .ge 13, 3) := by decide +kernel
theorem dX10_firstWithSignatureOf_41 : decode cX10_firstWithSignatureOf 41 = .ok (.aload_n 0, 1) := by decide +kernel
theorem dX10_firstWithSignatureOf_42 : decode cX10_firstWithSignatureOf 42 = .ok (.getfield 20, 3) := by decide +kernel
theorem dX10_firstWithSignatureOf_45 : decode cX10_firstWithSignatureOf 45 = .ok (.iload 4, 2) := by decide +kernel
theorem dX10_firstWithSignatureOf_47 : decode cX10_firstWithSignatureOf 47 = .ok (.iload_n 1, 1) := by decide +kernel
theorem dX10_firstWithSignatureOf_48 : decode cX10_firstWithSignatureOf 48 = .ok (.iastore, 1) := by decide +kernel
theorem dX10_firstWithSignatureOf_49 : decode cX10_firstWithSignatureOf 49 = .ok (.iload_n 1, 1) := by decide +kernel
theorem dX10_firstWithSignatureOf_50 : decode cX10_firstWithSignatureOf 50 = .ok (.ireturn, 1) := by decide +kernel
theorem dX10_firstWithSignatureOf_51 : decode cX10_firstWithSignatureOf 51 = .ok (.aload_n 0, 1) := by decide +kernel
theorem dX10_firstWithSignatureOf_52 : decode cX10_firstWithSignatureOf 52 = .ok (.getfield 16, 3) := by decide +kernel
theorem dX10_firstWithSignatureOf_55 : decode cX10_firstWithSignatureOf 55 = .ok (.aload_n 0, 1) := by decide +kernel
theorem dX10_firstWithSignatureOf_56 : decode cX10_firstWithSignatureOf 56 = .ok (.getfield 20, 3) := by decide +kernel
theorem dX10_firstWithSignatureOf_59 : decode cX10_firstWithSignatureOf 59 = .ok (.iload 4, 2) := by decide +kernel
theorem dX10_firstWithSignatureOf_61 : decode cX10_firstWithSignatureOf 61 = .ok (.iaload, 1) := by decide +kernel
theorem dX10_firstWithSignatureOf_62 : decode cX10_firstWithSignatureOf 62 = .ok (.iaload, 1) := by decide +kernel
theorem dX10_firstWithSignatureOf_63 : decode cX10_firstWithSignatureOf 63 = .ok (.aload_n 0, 1) := by decide +kernel
theorem dX10_firstWithSignatureOf_64 : decode cX10_firstWithSignatureOf 64 = .ok (.getfield 16, 3) := by decide +kernel
theorem dX10_firstWithSignatureOf_67 : decode cX10_firstWithSignatureOf 67 = .ok (.iload_n 1, 1) := by decide +kernel
theorem dX10_firstWithSignatureOf_68 : decode cX10_firstWithSignatureOf 68 = .ok (.iaload, 1) := by decide +kernel
theorem dX10_firstWithSignatureOf_69 : decode cX10_firstWithSignatureOf 69 = .ok (.if_icmp .ne 11, 3) := by decide +kernel
theorem dX10_firstWithSignatureOf_72 : decode cX10_firstWithSignatureOf 72 = .ok (.aload_n 0, 1) := by decide +kernel
theorem dX10_firstWithSignatureOf_73 : decode cX10_firstWithSignatureOf 73 = .ok (.getfield 20, 3) := by decide +kernel
theorem dX10_firstWithSignatureOf_76 : decode cX10_firstWithSignatureOf 76 = .ok (.iload 4, 2) := by decide +kernel
theorem dX10_firstWithSignatureOf_78 : decode cX10_firstWithSignatureOf 78 = .ok (.iaload, 1) := by decide +kernel
theorem dX10_firstWithSignatureOf_79 : decode cX10_firstWithSignatureOf 79 = .ok (.ireturn, 1) := by decide +kernel
theorem dX10_firstWithSignatureOf_80 : decode cX10_firstWithSignatureOf 80 = .ok (.iinc 3 1, 3) := by decide +kernel
theorem dX10_firstWithSignatureOf_83 : decode cX10_firstWithSignatureOf 83 = .ok (.goto (-68), 3) := by decide +kernel
theorem dX10_firstWithSignatureOf_86 : decode cX10_firstWithSignatureOf 86 = .ok (.iload_n 1, 1) := by decide +kernel
theorem dX10_firstWithSignatureOf_87 : decode cX10_firstWithSignatureOf 87 = .ok (.ireturn, 1) := by decide +kernel
set_option maxRecDepth 20000 in
theorem ggX11_init_X5_init : GoodIn wsX11_init wsX5_init := goodIn_r _ [38, 39, 2, 3, 40, 41, 42, 43, 44, 45, 46, 47, 48, 16, 17, 49, 50, 51, 52, 53, 54, 55, 56, 57, 10, 58, 59, 60, 110, 111, 112, 113, 165, 166, 126, 127, 128] (by decide +kernel) (by decide +kernel)
set_option maxRecDepth 20000 in
theorem gX11_init_X5_init : GoodIn wsX11_init (wsX5_init) := ggX11_init_X5_init
set_option maxRecDepth 20000 in
theorem ggX11_init_X9_init : GoodIn wsX11_init wsX9_init := goodIn_r _ [56, 57, 2, 3, 10, 58, 59, 60, 126, 127, 128] (by decide +kernel) (by decide +kernel)
set_option maxRecDepth 20000 in
theorem gX11_init_X9_init_n39 : GoodIn wsX11_init (wsX9_init) := ggX11_init_X9_init
set_option maxRecDepth 20000 in
theorem ggX11_init_X10_init : GoodIn wsX11_init wsX10_init := goodIn_r _ [62, 63, 2, 3, 32, 64, 65, 10, 66, 67, 68, 69, 70, 129, 130, 131, 132, 133, 134, 135] (by decide +kernel) (by decide +kernel)
