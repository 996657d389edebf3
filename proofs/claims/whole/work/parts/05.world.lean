theorem TX0_0 : TX0 0 = ("WeatherTeller$Chooser", "numbers", "[I", true) := rfl
theorem TX0_1 : TX0 1 = ("WeatherTeller$Chooser", "weights", "[I", true) := rfl
theorem TX0_2 : TX0 2 = ("WeatherTeller$Chooser", "chosen", "[Z", true) := rfl
theorem TX0_3 : TX0 3 = ("WeatherTeller$Chooser", "size", "I", false) := rfl
theorem tyX0_3 : tyX0 3 = .int := rfl
theorem TX0_4 : TX0 4 = ("WeatherTeller$Chooser", "signs", "[I", true) := rfl
theorem TX0_5 : TX0 5 = ("WeatherTeller$Chooser", "best", "[I", true) := rfl
theorem TX0_6 : TX0 6 = ("WeatherTeller$Chooser", "taken", "[I", true) := rfl
theorem clX0 : vwCl[0]? = some (RX0, TX0, 7) := rfl
theorem TX1_0 : TX1 0 = ("WeatherTeller$ClauseReader", "butWord", "J", true) := rfl
theorem TX1_1 : TX1 1 = ("WeatherTeller$ClauseReader", "places", "I", false) := rfl
theorem tyX1_1 : tyX1 1 = .int := rfl
theorem TX1_2 : TX1 2 = ("WeatherTeller$ClauseReader", "band", "I", false) := rfl
theorem tyX1_2 : tyX1 2 = .int := rfl
theorem TX1_3 : TX1 3 = ("WeatherTeller$ClauseReader", "from", "I", false) := rfl
theorem tyX1_3 : tyX1 3 = .int := rfl
theorem TX1_4 : TX1 4 = ("WeatherTeller$ClauseReader", "to", "I", false) := rfl
theorem tyX1_4 : tyX1 4 = .int := rfl
theorem clX1 : vwCl[1]? = some (RX1, TX1, 5) := rfl
theorem TX2_0 : TX2 0 = ("WeatherTeller$Findings", "bands", "[I", true) := rfl
theorem TX2_1 : TX2 1 = ("WeatherTeller$Findings", "froms", "[I", true) := rfl
theorem TX2_2 : TX2 2 = ("WeatherTeller$Findings", "tos", "[I", true) := rfl
theorem TX2_3 : TX2 3 = ("WeatherTeller$Findings", "places", "[I", true) := rfl
theorem TX2_4 : TX2 4 = ("WeatherTeller$Findings", "size", "I", false) := rfl
theorem tyX2_4 : tyX2 4 = .int := rfl
theorem TX2_5 : TX2 5 = ("WeatherTeller$Findings", "hoursIn", "[I", true) := rfl
theorem TX2_6 : TX2 6 = ("WeatherTeller$Findings", "placesByEnd", "[I", true) := rfl
theorem clX2 : vwCl[2]? = some (RX2, TX2, 7) := rfl
theorem TX3_0 : TX3 0 = ("WeatherTeller$Groups", "joined", "[I", true) := rfl
theorem TX3_1 : TX3 1 = ("WeatherTeller$Groups", "best", "[I", true) := rfl
theorem TX3_2 : TX3 2 = ("WeatherTeller$Groups", "sets", "I", false) := rfl
theorem tyX3_2 : tyX3 2 = .int := rfl
theorem clX3 : vwCl[3]? = some (RX3, TX3, 3) := rfl
theorem TX4_0 : TX4 0 = ("WeatherTeller$Rules", "placeNames", "[J", true) := rfl
theorem TX4_1 : TX4 1 = ("WeatherTeller$Rules", "regionNames", "[J", true) := rfl
theorem TX4_2 : TX4 2 = ("WeatherTeller$Rules", "regionPlaces", "[I", true) := rfl
theorem TX4_3 : TX4 3 = ("WeatherTeller$Rules", "words", "[J", true) := rfl
theorem TX4_4 : TX4 4 = ("WeatherTeller$Rules", "quantities", "[I", true) := rfl
theorem TX4_5 : TX4 5 = ("WeatherTeller$Rules", "lows", "[I", true) := rfl
theorem TX4_6 : TX4 6 = ("WeatherTeller$Rules", "highs", "[I", true) := rfl
theorem TX4_7 : TX4 7 = ("WeatherTeller$Rules", "grades", "[I", true) := rfl
theorem TX4_8 : TX4 8 = ("WeatherTeller$Rules", "warnings", "[Z", true) := rfl
theorem TX4_9 : TX4 9 = ("WeatherTeller$Rules", "places", "I", false) := rfl
theorem tyX4_9 : tyX4 9 = .int := rfl
theorem TX4_10 : TX4 10 = ("WeatherTeller$Rules", "regions", "I", false) := rfl
theorem tyX4_10 : tyX4 10 = .int := rfl
theorem TX4_11 : TX4 11 = ("WeatherTeller$Rules", "bands", "I", false) := rfl
theorem tyX4_11 : tyX4 11 = .int := rfl
theorem clX4 : vwCl[4]? = some (RX4, TX4, 12) := rfl
theorem TX5_0 : TX5 0 = ("WeatherTeller$RulesReader", "placeWord", "J", true) := rfl
theorem TX5_1 : TX5 1 = ("WeatherTeller$RulesReader", "regionWord", "J", true) := rfl
theorem TX5_2 : TX5 2 = ("WeatherTeller$RulesReader", "bandWord", "J", true) := rfl
theorem TX5_3 : TX5 3 = ("WeatherTeller$RulesReader", "warnWord", "J", true) := rfl
theorem TX5_4 : TX5 4 = ("WeatherTeller$RulesReader", "butWord", "J", true) := rfl
theorem TX5_5 : TX5 5 = ("WeatherTeller$RulesReader", "faultKind", "I", false) := rfl
theorem tyX5_5 : tyX5 5 = .int := rfl
theorem TX5_6 : TX5 6 = ("WeatherTeller$RulesReader", "faultPlace", "I", false) := rfl
theorem tyX5_6 : tyX5 6 = .int := rfl
theorem TX5_7 : TX5 7 = ("WeatherTeller$RulesReader", "wordPlace", "I", false) := rfl
theorem tyX5_7 : tyX5 7 = .int := rfl
theorem clX5 : vwCl[5]? = some (RX5, TX5, 8) := rfl
theorem TX6_0 : TX6 0 = ("WeatherTeller$Signs", "row", "[B", false) := rfl
theorem TX6_1 : TX6 1 = ("WeatherTeller$Signs", "length", "I", false) := rfl
theorem tyX6_1 : tyX6 1 = .int := rfl
theorem clX6 : vwCl[6]? = some (RX6, TX6, 2) := rfl
theorem TX7_0 : TX7 0 = ("WeatherTeller$Table", "cells", "[I", true) := rfl
theorem clX7 : vwCl[7]? = some (RX7, TX7, 1) := rfl
theorem TX8_0 : TX8 0 = ("WeatherTeller$Tape", "bytes", "[B", true) := rfl
theorem TX8_1 : TX8 1 = ("WeatherTeller$Tape", "length", "I", false) := rfl
theorem tyX8_1 : tyX8 1 = .int := rfl
theorem TX8_2 : TX8 2 = ("WeatherTeller$Tape", "at", "I", false) := rfl
theorem tyX8_2 : tyX8 2 = .int := rfl
theorem TX8_3 : TX8 3 = ("WeatherTeller$Tape", "end", "I", false) := rfl
theorem tyX8_3 : tyX8 3 = .int := rfl
theorem clX8 : vwCl[8]? = some (RX8, TX8, 4) := rfl
theorem TX9_0 : TX9 0 = ("WeatherTeller$Text", "numbers", "[I", true) := rfl
theorem TX9_1 : TX9 1 = ("WeatherTeller$Text", "signs", "LWeatherTeller$Signs;", true) := rfl
theorem TX9_2 : TX9 2 = ("WeatherTeller$Text", "size", "I", false) := rfl
theorem tyX9_2 : tyX9 2 = .int := rfl
theorem TX9_3 : TX9 3 = ("WeatherTeller$Text", "weight", "I", false) := rfl
theorem tyX9_3 : tyX9 3 = .int := rfl
theorem clX9 : vwCl[9]? = some (RX9, TX9, 4) := rfl
theorem TX10_0 : TX10 0 = ("WeatherTeller", "tape", "LWeatherTeller$Tape;", true) := rfl
theorem TX10_1 : TX10 1 = ("WeatherTeller", "rulesReader", "LWeatherTeller$RulesReader;", true) := rfl
theorem TX10_2 : TX10 2 = ("WeatherTeller", "clauseReader", "LWeatherTeller$ClauseReader;", true) := rfl
theorem TX10_3 : TX10 3 = ("WeatherTeller", "groups", "LWeatherTeller$Groups;", true) := rfl
theorem TX10_4 : TX10 4 = ("WeatherTeller", "findings", "LWeatherTeller$Findings;", true) := rfl
theorem TX10_5 : TX10 5 = ("WeatherTeller", "chooser", "LWeatherTeller$Chooser;", true) := rfl
theorem TX10_6 : TX10 6 = ("WeatherTeller", "text", "LWeatherTeller$Text;", true) := rfl
theorem TX10_7 : TX10 7 = ("WeatherTeller", "clause", "LWeatherTeller$Signs;", true) := rfl
theorem TX10_8 : TX10 8 = ("WeatherTeller", "rules", "LWeatherTeller$Rules;", false) := rfl
theorem TX10_9 : TX10 9 = ("WeatherTeller", "draft", "LWeatherTeller$Rules;", false) := rfl
theorem TX10_10 : TX10 10 = ("WeatherTeller", "now", "LWeatherTeller$Table;", false) := rfl
theorem TX10_11 : TX10 11 = ("WeatherTeller", "before", "LWeatherTeller$Table;", false) := rfl
theorem TX10_12 : TX10 12 = ("WeatherTeller", "findingsKnown", "Z", false) := rfl
theorem tyX10_12 : tyX10 12 = .boolean := rfl
theorem clX10 : vwCl[10]? = some (RX10, TX10, 13) := rfl
theorem TX11_0 : TX11 0 = ("WeatherTellerModel", "tape", "[I", true) := rfl
theorem TX11_1 : TX11 1 = ("WeatherTellerModel", "tapeSize", "I", false) := rfl
theorem tyX11_1 : tyX11 1 = .int := rfl
theorem TX11_2 : TX11 2 = ("WeatherTellerModel", "thrown", "I", false) := rfl
theorem tyX11_2 : tyX11 2 = .int := rfl
theorem TX11_3 : TX11 3 = ("WeatherTellerModel", "places", "I", false) := rfl
theorem tyX11_3 : tyX11 3 = .int := rfl
theorem TX11_4 : TX11 4 = ("WeatherTellerModel", "regions", "I", false) := rfl
theorem tyX11_4 : tyX11 4 = .int := rfl
theorem TX11_5 : TX11 5 = ("WeatherTellerModel", "letters", "[I", true) := rfl
theorem TX11_6 : TX11 6 = ("WeatherTellerModel", "sizes", "[I", true) := rfl
theorem TX11_7 : TX11 7 = ("WeatherTellerModel", "members", "[I", true) := rfl
theorem TX11_8 : TX11 8 = ("WeatherTellerModel", "bands", "I", false) := rfl
theorem tyX11_8 : tyX11 8 = .int := rfl
theorem TX11_9 : TX11 9 = ("WeatherTellerModel", "bQuantity", "[I", true) := rfl
theorem TX11_10 : TX11 10 = ("WeatherTellerModel", "bLow", "[I", true) := rfl
theorem TX11_11 : TX11 11 = ("WeatherTellerModel", "bHigh", "[I", true) := rfl
theorem TX11_12 : TX11 12 = ("WeatherTellerModel", "bGrade", "[I", true) := rfl
theorem TX11_13 : TX11 13 = ("WeatherTellerModel", "bWarn", "[Z", true) := rfl
theorem TX11_14 : TX11 14 = ("WeatherTellerModel", "bLetters", "[I", true) := rfl
theorem TX11_15 : TX11 15 = ("WeatherTellerModel", "bSize", "[I", true) := rfl
theorem TX11_16 : TX11 16 = ("WeatherTellerModel", "fault", "I", false) := rfl
theorem tyX11_16 : tyX11 16 = .int := rfl
theorem TX11_17 : TX11 17 = ("WeatherTellerModel", "faultPlace", "I", false) := rfl
theorem tyX11_17 : tyX11 17 = .int := rfl
theorem TX11_18 : TX11 18 = ("WeatherTellerModel", "groupNames", "[I", true) := rfl
theorem TX11_19 : TX11 19 = ("WeatherTellerModel", "groupOut", "[I", true) := rfl
theorem TX11_20 : TX11 20 = ("WeatherTellerModel", "table", "[I", true) := rfl
theorem TX11_21 : TX11 21 = ("WeatherTellerModel", "words", "[I", true) := rfl
theorem TX11_22 : TX11 22 = ("WeatherTellerModel", "size", "I", false) := rfl
theorem tyX11_22 : tyX11 22 = .int := rfl
theorem TX11_23 : TX11 23 = ("WeatherTellerModel", "next", "I", false) := rfl
theorem tyX11_23 : tyX11 23 = .int := rfl
theorem TX11_24 : TX11 24 = ("WeatherTellerModel", "kind", "I", false) := rfl
theorem tyX11_24 : tyX11 24 = .int := rfl
theorem TX11_25 : TX11 25 = ("WeatherTellerModel", "which", "I", false) := rfl
theorem tyX11_25 : tyX11 25 = .int := rfl
theorem TX11_26 : TX11 26 = ("WeatherTellerModel", "place", "I", false) := rfl
theorem tyX11_26 : tyX11 26 = .int := rfl
theorem TX11_27 : TX11 27 = ("WeatherTellerModel", "end", "I", false) := rfl
theorem tyX11_27 : tyX11 27 = .int := rfl
theorem TX11_28 : TX11 28 = ("WeatherTellerModel", "read", "I", false) := rfl
theorem tyX11_28 : tyX11 28 = .int := rfl
theorem TX11_29 : TX11 29 = ("WeatherTellerModel", "rPlaces", "I", false) := rfl
theorem tyX11_29 : tyX11 29 = .int := rfl
theorem TX11_30 : TX11 30 = ("WeatherTellerModel", "rRegions", "I", false) := rfl
theorem tyX11_30 : tyX11 30 = .int := rfl
theorem TX11_31 : TX11 31 = ("WeatherTellerModel", "rBands", "I", false) := rfl
theorem tyX11_31 : tyX11 31 = .int := rfl
theorem TX11_32 : TX11 32 = ("WeatherTellerModel", "findings", "I", false) := rfl
theorem tyX11_32 : tyX11 32 = .int := rfl
theorem TX11_33 : TX11 33 = ("WeatherTellerModel", "fBand", "[I", true) := rfl
theorem TX11_34 : TX11 34 = ("WeatherTellerModel", "fFrom", "[I", true) := rfl
theorem TX11_35 : TX11 35 = ("WeatherTellerModel", "fTo", "[I", true) := rfl
theorem TX11_36 : TX11 36 = ("WeatherTellerModel", "fPlaces", "[I", true) := rfl
theorem TX11_37 : TX11 37 = ("WeatherTellerModel", "isText", "Z", false) := rfl
theorem tyX11_37 : tyX11 37 = .boolean := rfl
theorem TX11_38 : TX11 38 = ("WeatherTellerModel", "toldMany", "I", false) := rfl
theorem tyX11_38 : tyX11 38 = .int := rfl
theorem TX11_39 : TX11 39 = ("WeatherTellerModel", "toldWeight", "I", false) := rfl
theorem tyX11_39 : tyX11 39 = .int := rfl
theorem TX11_40 : TX11 40 = ("WeatherTellerModel", "tNumber", "[I", true) := rfl
theorem TX11_41 : TX11 41 = ("WeatherTellerModel", "tBand", "[I", true) := rfl
theorem TX11_42 : TX11 42 = ("WeatherTellerModel", "tFrom", "[I", true) := rfl
theorem TX11_43 : TX11 43 = ("WeatherTellerModel", "tTo", "[I", true) := rfl
theorem TX11_44 : TX11 44 = ("WeatherTellerModel", "tPlaces", "[I", true) := rfl
theorem TX11_45 : TX11 45 = ("WeatherTellerModel", "taken", "[Z", true) := rfl
theorem TX11_46 : TX11 46 = ("WeatherTellerModel", "best", "[I", true) := rfl
theorem TX11_47 : TX11 47 = ("WeatherTellerModel", "at", "I", false) := rfl
theorem tyX11_47 : tyX11 47 = .int := rfl
theorem TX11_48 : TX11 48 = ("WeatherTellerModel", "from0", "I", false) := rfl
theorem tyX11_48 : tyX11 48 = .int := rfl
theorem TX11_49 : TX11 49 = ("WeatherTellerModel", "count", "I", false) := rfl
theorem tyX11_49 : tyX11 49 = .int := rfl
theorem clX11 : vwCl[11]? = some (RX11, TX11, 50) := rfl
def mf0 (a : Nat → Nat) (S : St) : List Value := [.ref (a 1), .int (S.1 0 1), .int (S.1 0 2), .int (S.1 0 3), .int (S.1 0 4), .ref (a 2), .ref (a 3), .ref (a 4), .int (S.1 0 8), .ref (a 5), .ref (a 6), .ref (a 7), .ref (a 8), .ref (a 9), .ref (a 10), .ref (a 11), .int (S.1 0 16), .int (S.1 0 17), .ref (a 12), .ref (a 13), .ref (a 14), .ref (a 15), .int (S.1 0 22), .int (S.1 0 23), .int (S.1 0 24), .int (S.1 0 25), .int (S.1 0 26), .int (S.1 0 27), .int (S.1 0 28), .int (S.1 0 29), .int (S.1 0 30), .int (S.1 0 31), .int (S.1 0 32), .ref (a 16), .ref (a 17), .ref (a 18), .ref (a 19), .int (S.1 0 37), .int (S.1 0 38), .int (S.1 0 39), .ref (a 20), .ref (a 21), .ref (a 22), .ref (a 23), .ref (a 24), .ref (a 25), .ref (a 26), .int (S.1 0 47), .int (S.1 0 48), .int (S.1 0 49)]
def mcells (cs : Nat → ClassId) (a : Nat → Nat) (S : St) : va_W := [((a 0), .inr (11, mf0 a S)), ((a 1), .inl (cs 0, 1000, .inl (S.1 1))), ((a 2), .inl (cs 0, 288, .inl (S.1 2))), ((a 3), .inl (cs 0, 24, .inl (S.1 3))), ((a 4), .inl (cs 0, 24, .inl (S.1 4))), ((a 5), .inl (cs 0, 48, .inl (S.1 5))), ((a 6), .inl (cs 0, 48, .inl (S.1 6))), ((a 7), .inl (cs 0, 48, .inl (S.1 7))), ((a 8), .inl (cs 0, 48, .inl (S.1 8))), ((a 9), .inl (cs 3, 48, .inl (S.1 9))), ((a 10), .inl (cs 0, 576, .inl (S.1 10))), ((a 11), .inl (cs 0, 48, .inl (S.1 11))), ((a 12), .inl (cs 0, 64, .inl (S.1 12))), ((a 13), .inl (cs 0, 64, .inl (S.1 13))), ((a 14), .inl (cs 0, 864, .inl (S.1 14))), ((a 15), .inl (cs 0, 27, .inl (S.1 15))), ((a 16), .inl (cs 0, 432, .inl (S.1 16))), ((a 17), .inl (cs 0, 432, .inl (S.1 17))), ((a 18), .inl (cs 0, 432, .inl (S.1 18))), ((a 19), .inl (cs 0, 432, .inl (S.1 19))), ((a 20), .inl (cs 0, 432, .inl (S.1 20))), ((a 21), .inl (cs 0, 432, .inl (S.1 21))), ((a 22), .inl (cs 0, 432, .inl (S.1 22))), ((a 23), .inl (cs 0, 432, .inl (S.1 23))), ((a 24), .inl (cs 0, 432, .inl (S.1 24))), ((a 25), .inl (cs 3, 432, .inl (S.1 25))), ((a 26), .inl (cs 0, 173633, .inl (S.1 26)))]
section
variable {cs : Nat → ClassId} {a : Nat → Nat} {S : St}
theorem mE0 : (mcells cs a S)[0]? = some ((a 0), .inr (11, mf0 a S)) := rfl
theorem mE1 : (mcells cs a S)[1]? = some ((a 1), .inl (cs 0, 1000, .inl (S.1 1))) := rfl
theorem mE2 : (mcells cs a S)[2]? = some ((a 2), .inl (cs 0, 288, .inl (S.1 2))) := rfl
theorem mE3 : (mcells cs a S)[3]? = some ((a 3), .inl (cs 0, 24, .inl (S.1 3))) := rfl
theorem mE4 : (mcells cs a S)[4]? = some ((a 4), .inl (cs 0, 24, .inl (S.1 4))) := rfl
theorem mE5 : (mcells cs a S)[5]? = some ((a 5), .inl (cs 0, 48, .inl (S.1 5))) := rfl
theorem mE6 : (mcells cs a S)[6]? = some ((a 6), .inl (cs 0, 48, .inl (S.1 6))) := rfl
theorem mE7 : (mcells cs a S)[7]? = some ((a 7), .inl (cs 0, 48, .inl (S.1 7))) := rfl
theorem mE8 : (mcells cs a S)[8]? = some ((a 8), .inl (cs 0, 48, .inl (S.1 8))) := rfl
theorem mE9 : (mcells cs a S)[9]? = some ((a 9), .inl (cs 3, 48, .inl (S.1 9))) := rfl
theorem mE10 : (mcells cs a S)[10]? = some ((a 10), .inl (cs 0, 576, .inl (S.1 10))) := rfl
theorem mE11 : (mcells cs a S)[11]? = some ((a 11), .inl (cs 0, 48, .inl (S.1 11))) := rfl
theorem mE12 : (mcells cs a S)[12]? = some ((a 12), .inl (cs 0, 64, .inl (S.1 12))) := rfl
theorem mE13 : (mcells cs a S)[13]? = some ((a 13), .inl (cs 0, 64, .inl (S.1 13))) := rfl
theorem mE14 : (mcells cs a S)[14]? = some ((a 14), .inl (cs 0, 864, .inl (S.1 14))) := rfl
theorem mE15 : (mcells cs a S)[15]? = some ((a 15), .inl (cs 0, 27, .inl (S.1 15))) := rfl
theorem mE16 : (mcells cs a S)[16]? = some ((a 16), .inl (cs 0, 432, .inl (S.1 16))) := rfl
theorem mE17 : (mcells cs a S)[17]? = some ((a 17), .inl (cs 0, 432, .inl (S.1 17))) := rfl
theorem mE18 : (mcells cs a S)[18]? = some ((a 18), .inl (cs 0, 432, .inl (S.1 18))) := rfl
theorem mE19 : (mcells cs a S)[19]? = some ((a 19), .inl (cs 0, 432, .inl (S.1 19))) := rfl
theorem mE20 : (mcells cs a S)[20]? = some ((a 20), .inl (cs 0, 432, .inl (S.1 20))) := rfl
theorem mE21 : (mcells cs a S)[21]? = some ((a 21), .inl (cs 0, 432, .inl (S.1 21))) := rfl
theorem mE22 : (mcells cs a S)[22]? = some ((a 22), .inl (cs 0, 432, .inl (S.1 22))) := rfl
theorem mE23 : (mcells cs a S)[23]? = some ((a 23), .inl (cs 0, 432, .inl (S.1 23))) := rfl
theorem mE24 : (mcells cs a S)[24]? = some ((a 24), .inl (cs 0, 432, .inl (S.1 24))) := rfl
theorem mE25 : (mcells cs a S)[25]? = some ((a 25), .inl (cs 3, 432, .inl (S.1 25))) := rfl
theorem mE26 : (mcells cs a S)[26]? = some ((a 26), .inl (cs 0, 173633, .inl (S.1 26))) := rfl
theorem mL0 : (mf0 a S).length = 50 := rfl
theorem mV0_0 : (mf0 a S)[0]? = some (.ref (a 1)) := rfl
theorem mV0_1 : (mf0 a S)[1]? = some (.int (S.1 0 1)) := rfl
theorem mP0_1 {x : Int32} : (mcells cs a S).set 0 ((a 0), .inr (11, (mf0 a S).set 1 (.int x))) = mcells cs a (puI S 0 1 x) := rfl
theorem mV0_2 : (mf0 a S)[2]? = some (.int (S.1 0 2)) := rfl
theorem mP0_2 {x : Int32} : (mcells cs a S).set 0 ((a 0), .inr (11, (mf0 a S).set 2 (.int x))) = mcells cs a (puI S 0 2 x) := rfl
theorem mV0_3 : (mf0 a S)[3]? = some (.int (S.1 0 3)) := rfl
theorem mP0_3 {x : Int32} : (mcells cs a S).set 0 ((a 0), .inr (11, (mf0 a S).set 3 (.int x))) = mcells cs a (puI S 0 3 x) := rfl
theorem mV0_4 : (mf0 a S)[4]? = some (.int (S.1 0 4)) := rfl
theorem mP0_4 {x : Int32} : (mcells cs a S).set 0 ((a 0), .inr (11, (mf0 a S).set 4 (.int x))) = mcells cs a (puI S 0 4 x) := rfl
theorem mV0_5 : (mf0 a S)[5]? = some (.ref (a 2)) := rfl
theorem mV0_6 : (mf0 a S)[6]? = some (.ref (a 3)) := rfl
theorem mV0_7 : (mf0 a S)[7]? = some (.ref (a 4)) := rfl
theorem mV0_8 : (mf0 a S)[8]? = some (.int (S.1 0 8)) := rfl
theorem mP0_8 {x : Int32} : (mcells cs a S).set 0 ((a 0), .inr (11, (mf0 a S).set 8 (.int x))) = mcells cs a (puI S 0 8 x) := rfl
theorem mV0_9 : (mf0 a S)[9]? = some (.ref (a 5)) := rfl
theorem mV0_10 : (mf0 a S)[10]? = some (.ref (a 6)) := rfl
theorem mV0_11 : (mf0 a S)[11]? = some (.ref (a 7)) := rfl
theorem mV0_12 : (mf0 a S)[12]? = some (.ref (a 8)) := rfl
theorem mV0_13 : (mf0 a S)[13]? = some (.ref (a 9)) := rfl
theorem mV0_14 : (mf0 a S)[14]? = some (.ref (a 10)) := rfl
theorem mV0_15 : (mf0 a S)[15]? = some (.ref (a 11)) := rfl
theorem mV0_16 : (mf0 a S)[16]? = some (.int (S.1 0 16)) := rfl
theorem mP0_16 {x : Int32} : (mcells cs a S).set 0 ((a 0), .inr (11, (mf0 a S).set 16 (.int x))) = mcells cs a (puI S 0 16 x) := rfl
theorem mV0_17 : (mf0 a S)[17]? = some (.int (S.1 0 17)) := rfl
theorem mP0_17 {x : Int32} : (mcells cs a S).set 0 ((a 0), .inr (11, (mf0 a S).set 17 (.int x))) = mcells cs a (puI S 0 17 x) := rfl
theorem mV0_18 : (mf0 a S)[18]? = some (.ref (a 12)) := rfl
theorem mV0_19 : (mf0 a S)[19]? = some (.ref (a 13)) := rfl
theorem mV0_20 : (mf0 a S)[20]? = some (.ref (a 14)) := rfl
theorem mV0_21 : (mf0 a S)[21]? = some (.ref (a 15)) := rfl
theorem mV0_22 : (mf0 a S)[22]? = some (.int (S.1 0 22)) := rfl
theorem mP0_22 {x : Int32} : (mcells cs a S).set 0 ((a 0), .inr (11, (mf0 a S).set 22 (.int x))) = mcells cs a (puI S 0 22 x) := rfl
theorem mV0_23 : (mf0 a S)[23]? = some (.int (S.1 0 23)) := rfl
theorem mP0_23 {x : Int32} : (mcells cs a S).set 0 ((a 0), .inr (11, (mf0 a S).set 23 (.int x))) = mcells cs a (puI S 0 23 x) := rfl
theorem mV0_24 : (mf0 a S)[24]? = some (.int (S.1 0 24)) := rfl
theorem mP0_24 {x : Int32} : (mcells cs a S).set 0 ((a 0), .inr (11, (mf0 a S).set 24 (.int x))) = mcells cs a (puI S 0 24 x) := rfl
theorem mV0_25 : (mf0 a S)[25]? = some (.int (S.1 0 25)) := rfl
theorem mP0_25 {x : Int32} : (mcells cs a S).set 0 ((a 0), .inr (11, (mf0 a S).set 25 (.int x))) = mcells cs a (puI S 0 25 x) := rfl
theorem mV0_26 : (mf0 a S)[26]? = some (.int (S.1 0 26)) := rfl
theorem mP0_26 {x : Int32} : (mcells cs a S).set 0 ((a 0), .inr (11, (mf0 a S).set 26 (.int x))) = mcells cs a (puI S 0 26 x) := rfl
theorem mV0_27 : (mf0 a S)[27]? = some (.int (S.1 0 27)) := rfl
theorem mP0_27 {x : Int32} : (mcells cs a S).set 0 ((a 0), .inr (11, (mf0 a S).set 27 (.int x))) = mcells cs a (puI S 0 27 x) := rfl
theorem mV0_28 : (mf0 a S)[28]? = some (.int (S.1 0 28)) := rfl
theorem mP0_28 {x : Int32} : (mcells cs a S).set 0 ((a 0), .inr (11, (mf0 a S).set 28 (.int x))) = mcells cs a (puI S 0 28 x) := rfl
theorem mV0_29 : (mf0 a S)[29]? = some (.int (S.1 0 29)) := rfl
theorem mP0_29 {x : Int32} : (mcells cs a S).set 0 ((a 0), .inr (11, (mf0 a S).set 29 (.int x))) = mcells cs a (puI S 0 29 x) := rfl
theorem mV0_30 : (mf0 a S)[30]? = some (.int (S.1 0 30)) := rfl
theorem mP0_30 {x : Int32} : (mcells cs a S).set 0 ((a 0), .inr (11, (mf0 a S).set 30 (.int x))) = mcells cs a (puI S 0 30 x) := rfl
theorem mV0_31 : (mf0 a S)[31]? = some (.int (S.1 0 31)) := rfl
theorem mP0_31 {x : Int32} : (mcells cs a S).set 0 ((a 0), .inr (11, (mf0 a S).set 31 (.int x))) = mcells cs a (puI S 0 31 x) := rfl
theorem mV0_32 : (mf0 a S)[32]? = some (.int (S.1 0 32)) := rfl
theorem mP0_32 {x : Int32} : (mcells cs a S).set 0 ((a 0), .inr (11, (mf0 a S).set 32 (.int x))) = mcells cs a (puI S 0 32 x) := rfl
theorem mV0_33 : (mf0 a S)[33]? = some (.ref (a 16)) := rfl
theorem mV0_34 : (mf0 a S)[34]? = some (.ref (a 17)) := rfl
theorem mV0_35 : (mf0 a S)[35]? = some (.ref (a 18)) := rfl
theorem mV0_36 : (mf0 a S)[36]? = some (.ref (a 19)) := rfl
theorem mV0_37 : (mf0 a S)[37]? = some (.int (S.1 0 37)) := rfl
theorem mP0_37 {x : Int32} : (mcells cs a S).set 0 ((a 0), .inr (11, (mf0 a S).set 37 (.int x))) = mcells cs a (puI S 0 37 x) := rfl
theorem mV0_38 : (mf0 a S)[38]? = some (.int (S.1 0 38)) := rfl
theorem mP0_38 {x : Int32} : (mcells cs a S).set 0 ((a 0), .inr (11, (mf0 a S).set 38 (.int x))) = mcells cs a (puI S 0 38 x) := rfl
theorem mV0_39 : (mf0 a S)[39]? = some (.int (S.1 0 39)) := rfl
theorem mP0_39 {x : Int32} : (mcells cs a S).set 0 ((a 0), .inr (11, (mf0 a S).set 39 (.int x))) = mcells cs a (puI S 0 39 x) := rfl
theorem mV0_40 : (mf0 a S)[40]? = some (.ref (a 20)) := rfl
theorem mV0_41 : (mf0 a S)[41]? = some (.ref (a 21)) := rfl
theorem mV0_42 : (mf0 a S)[42]? = some (.ref (a 22)) := rfl
theorem mV0_43 : (mf0 a S)[43]? = some (.ref (a 23)) := rfl
theorem mV0_44 : (mf0 a S)[44]? = some (.ref (a 24)) := rfl
theorem mV0_45 : (mf0 a S)[45]? = some (.ref (a 25)) := rfl
theorem mV0_46 : (mf0 a S)[46]? = some (.ref (a 26)) := rfl
theorem mV0_47 : (mf0 a S)[47]? = some (.int (S.1 0 47)) := rfl
theorem mP0_47 {x : Int32} : (mcells cs a S).set 0 ((a 0), .inr (11, (mf0 a S).set 47 (.int x))) = mcells cs a (puI S 0 47 x) := rfl
theorem mV0_48 : (mf0 a S)[48]? = some (.int (S.1 0 48)) := rfl
theorem mP0_48 {x : Int32} : (mcells cs a S).set 0 ((a 0), .inr (11, (mf0 a S).set 48 (.int x))) = mcells cs a (puI S 0 48 x) := rfl
theorem mV0_49 : (mf0 a S)[49]? = some (.int (S.1 0 49)) := rfl
theorem mP0_49 {x : Int32} : (mcells cs a S).set 0 ((a 0), .inr (11, (mf0 a S).set 49 (.int x))) = mcells cs a (puI S 0 49 x) := rfl
theorem mA1 {i : Nat} {x : Int32} : (mcells cs a S).set 1 ((a 1), .inl (cs 0, 1000, .inl (upd (S.1 1) i x))) = mcells cs a (puI S 1 i x) := rfl
theorem mA2 {i : Nat} {x : Int32} : (mcells cs a S).set 2 ((a 2), .inl (cs 0, 288, .inl (upd (S.1 2) i x))) = mcells cs a (puI S 2 i x) := rfl
theorem mA3 {i : Nat} {x : Int32} : (mcells cs a S).set 3 ((a 3), .inl (cs 0, 24, .inl (upd (S.1 3) i x))) = mcells cs a (puI S 3 i x) := rfl
theorem mA4 {i : Nat} {x : Int32} : (mcells cs a S).set 4 ((a 4), .inl (cs 0, 24, .inl (upd (S.1 4) i x))) = mcells cs a (puI S 4 i x) := rfl
theorem mA5 {i : Nat} {x : Int32} : (mcells cs a S).set 5 ((a 5), .inl (cs 0, 48, .inl (upd (S.1 5) i x))) = mcells cs a (puI S 5 i x) := rfl
theorem mA6 {i : Nat} {x : Int32} : (mcells cs a S).set 6 ((a 6), .inl (cs 0, 48, .inl (upd (S.1 6) i x))) = mcells cs a (puI S 6 i x) := rfl
theorem mA7 {i : Nat} {x : Int32} : (mcells cs a S).set 7 ((a 7), .inl (cs 0, 48, .inl (upd (S.1 7) i x))) = mcells cs a (puI S 7 i x) := rfl
theorem mA8 {i : Nat} {x : Int32} : (mcells cs a S).set 8 ((a 8), .inl (cs 0, 48, .inl (upd (S.1 8) i x))) = mcells cs a (puI S 8 i x) := rfl
theorem mA9 {i : Nat} {x : Int32} : (mcells cs a S).set 9 ((a 9), .inl (cs 3, 48, .inl (upd (S.1 9) i x))) = mcells cs a (puI S 9 i x) := rfl
theorem mA10 {i : Nat} {x : Int32} : (mcells cs a S).set 10 ((a 10), .inl (cs 0, 576, .inl (upd (S.1 10) i x))) = mcells cs a (puI S 10 i x) := rfl
theorem mA11 {i : Nat} {x : Int32} : (mcells cs a S).set 11 ((a 11), .inl (cs 0, 48, .inl (upd (S.1 11) i x))) = mcells cs a (puI S 11 i x) := rfl
theorem mA12 {i : Nat} {x : Int32} : (mcells cs a S).set 12 ((a 12), .inl (cs 0, 64, .inl (upd (S.1 12) i x))) = mcells cs a (puI S 12 i x) := rfl
theorem mA13 {i : Nat} {x : Int32} : (mcells cs a S).set 13 ((a 13), .inl (cs 0, 64, .inl (upd (S.1 13) i x))) = mcells cs a (puI S 13 i x) := rfl
theorem mA14 {i : Nat} {x : Int32} : (mcells cs a S).set 14 ((a 14), .inl (cs 0, 864, .inl (upd (S.1 14) i x))) = mcells cs a (puI S 14 i x) := rfl
theorem mA15 {i : Nat} {x : Int32} : (mcells cs a S).set 15 ((a 15), .inl (cs 0, 27, .inl (upd (S.1 15) i x))) = mcells cs a (puI S 15 i x) := rfl
theorem mA16 {i : Nat} {x : Int32} : (mcells cs a S).set 16 ((a 16), .inl (cs 0, 432, .inl (upd (S.1 16) i x))) = mcells cs a (puI S 16 i x) := rfl
theorem mA17 {i : Nat} {x : Int32} : (mcells cs a S).set 17 ((a 17), .inl (cs 0, 432, .inl (upd (S.1 17) i x))) = mcells cs a (puI S 17 i x) := rfl
theorem mA18 {i : Nat} {x : Int32} : (mcells cs a S).set 18 ((a 18), .inl (cs 0, 432, .inl (upd (S.1 18) i x))) = mcells cs a (puI S 18 i x) := rfl
theorem mA19 {i : Nat} {x : Int32} : (mcells cs a S).set 19 ((a 19), .inl (cs 0, 432, .inl (upd (S.1 19) i x))) = mcells cs a (puI S 19 i x) := rfl
theorem mA20 {i : Nat} {x : Int32} : (mcells cs a S).set 20 ((a 20), .inl (cs 0, 432, .inl (upd (S.1 20) i x))) = mcells cs a (puI S 20 i x) := rfl
theorem mA21 {i : Nat} {x : Int32} : (mcells cs a S).set 21 ((a 21), .inl (cs 0, 432, .inl (upd (S.1 21) i x))) = mcells cs a (puI S 21 i x) := rfl
theorem mA22 {i : Nat} {x : Int32} : (mcells cs a S).set 22 ((a 22), .inl (cs 0, 432, .inl (upd (S.1 22) i x))) = mcells cs a (puI S 22 i x) := rfl
theorem mA23 {i : Nat} {x : Int32} : (mcells cs a S).set 23 ((a 23), .inl (cs 0, 432, .inl (upd (S.1 23) i x))) = mcells cs a (puI S 23 i x) := rfl
theorem mA24 {i : Nat} {x : Int32} : (mcells cs a S).set 24 ((a 24), .inl (cs 0, 432, .inl (upd (S.1 24) i x))) = mcells cs a (puI S 24 i x) := rfl
theorem mA25 {i : Nat} {x : Int32} : (mcells cs a S).set 25 ((a 25), .inl (cs 3, 432, .inl (upd (S.1 25) i x))) = mcells cs a (puI S 25 i x) := rfl
theorem mA26 {i : Nat} {x : Int32} : (mcells cs a S).set 26 ((a 26), .inl (cs 0, 173633, .inl (upd (S.1 26) i x))) = mcells cs a (puI S 26 i x) := rfl
theorem mnm {β : Type} {D : va_G} {A : Nat → Prop} {H0 H : Heap} {locs : List Loc} {x : St} {k : St → Option β} {r : Option β} (hf : nm x k = r) (hM : gw D A H0 H locs (mcells cs a x)) : ∃ y, k y = r ∧ gw D A H0 H locs (mcells cs a y) := ⟨x, hf, hM⟩
end
